/-! THE CLAIM OUT OF ONE WALK OF THE LAW'S BODY. Your part is whole_start (and what it stands on); all else here is the same for every law, but numbers. -/
def R_law : String := "MixingRelaysLaw"
def lw_P (b : Addr) (xs : List Int32) (args : Array Value) (s : State) : Prop := args = #[.ref b] ∧ s.IntsAt b xs ∧ xs.length ≤ 2048 ∧ (Jvm.Cond.and given_1 narrow_1).before args s = true
def lw_Q (_ : Array Value) (s : State) (o : Outcome) (t : State) : Prop := o = .returned (some (.int 1)) ∧ Framed s o t [] 43 4721
def lw_Z (below : List Frame) (a : Array Value) (s : State) : State → Prop := fun t => ∃ o, t.status = .running ∧ Ended t below o ∧ lw_Q a s o t
/-- the law's own end, with 1 on the stack, nothing written that was there before, its room as the claim has it -/
theorem lw_ret {p : Program} {l : Launch} {e : Env} {s : State} {m : MethodId} {below : List Frame} {meth : Method} {c : Code} {b : Nat} (hx : p.tables.exec = Jvm.exec) (hb : c.code = code) (hr : meth.sig.returnType = ret) (hlocks : meth.locks = false) {pc : Nat} {H : Heap} {ls : Array Slot} (hdg : decode code pc = .ok (.ireturn, 1)) : W p l e room_1 s m #[Value.ref b] below meth c H [] 43 4721 (lw_Z below #[Value.ref b] s) (F0 m pc ls [.int 1]) := by
  intro T hT X
  obtain ⟨fs, hret, hrun, hended, hW, hframe⟩ := X.leave (v := some (.int 1)) (hlocks := hlocks) (fun h => by rw [hr] at h; cases h)
  have hmeth' : T.vm.method? m = some meth := X.method'
  refine ⟨T.setFrames fs, ?_, .returned (some (.int 1)), hrun, hended, rfl, ⟨_, rfl⟩, hW, hframe⟩
  jvm_step X.here [X.here.top, hx, hb, hdg, hmeth', hr, ret, narrow_b1]
  (try refine ⟨rfl, ?_⟩); (try refine ⟨rfl, ?_⟩)
  first | (intro acts; rw [hret _ acts rfl rfl rfl]) | rw [hret _ _ rfl rfl rfl]
  exact Steps.refl _
/-- what holds at the law's entry: the machine, the code, the tables' words (any of lw_tbl by 'hts w (by decide +kernel)'), the script of L ints xs at the cell b, what the Statement gives of the start (any of its parts by flat_of_before) -/
def lw_At (p : Program) (s : State) (m : MethodId) (meth : Method) (c : Code) (b L : Nat) (xs : Nat → Int32) : Prop :=
  p.tables.exec = Jvm.exec ∧ c.code = code ∧ meth.sig.returnType = ret ∧ c.maxLocals = 4 ∧ s.vm.findClass R_law = some m.cls ∧ (∀ w ∈ lw_tbl, w.before #[Value.ref b] s = true) ∧ va_X b L xs s s.heap ∧ b < s.heap.size ∧ meth.locks = false ∧ (Jvm.Cond.and given_1 narrow_1).before #[Value.ref b] s = true
theorem zH_sw {G : zG} {s : State} {H : Heap} {locs : List Loc} {M N : zM} (h : zH G true s H locs M N) : zH G false s H locs N M := ⟨by rw [← zW_swap]; exact h.1, h.2⟩
theorem zH_ws {G : zG} {s : State} {H : Heap} {locs : List Loc} {M N : zM} (h : zH G false s H locs N M) : zH G true s H locs M N := ⟨by rw [zW_swap]; exact h.1, h.2⟩
section
variable {p : Program} {l : Launch} {e : Env} {s : State} {m : MethodId} {below : List Frame} {meth : Method} {c : Code} {G : zG} {b L : Nat} {xs : Nat → Int32}
def pL_b1107 (ag : Int32 → zM → zM → Prop) (x3 : Int32) (M N : zM) : Prop :=
  ag (x3 + (4 : Int32)) M N
set_option maxHeartbeats 4000000 in
set_option maxRecDepth 100000 in
theorem wL_b1107 (hF : CallFix p m c cL_law 4 s #[Value.ref b] lw_tbl RL) (hSt : zSt G s) (hr : meth.sig.returnType = ret) (hlocks : meth.locks = false) (hX : va_X b L xs s s.heap) (hbl : b < s.heap.size) (hbA : ¬ zAA G b) (hnew : ∀ q, zAA G q → s.heap.size ≤ q) {ag : Int32 → zM → zM → Prop} (hag : ∀ (x3 : Int32) (M N : zM) (H : Heap) (locs : List Loc) (ls : Array Slot), ag x3 M N → zH G true s H locs M N → lv_has ls 4 [(0, .ref b), (1, .ref (G.1 0)), (2, .ref (G.1 21)), (3, .int x3)] → W p l e room_1 s m #[Value.ref b] below meth c H locs 43 4721 (lw_Z below #[Value.ref b] s) (F0 m 18 ls [])) (x3 : Int32) (M N : zM) (H : Heap) (locs : List Loc) (ls : Array Slot) (hH : zH G true s H locs M N) (hl : lv_has ls 4 [(0, .ref b), (1, .ref (G.1 0)), (2, .ref (G.1 21)), (3, .int x3)]) (h : pL_b1107 ag x3 M N) : W p l e room_1 s m #[Value.ref b] below meth c H locs 43 4721 (lw_Z below #[Value.ref b] s) (F0 m 1107 ls []) := by
  obtain ⟨hx, hb, hml, hown, hts⟩ := id hF
  unfold pL_b1107 at h
  refine lv_iinc (v := (x3 + (4 : Int32))) (lv' := [(3, .int (x3 + (4 : Int32))), (0, .ref b), (1, .ref (G.1 0)), (2, .ref (G.1 21))]) hx hb dL_law_1107 hl (k := 3) rfl rfl (by decide) rfl (fun ls hl => ?_)
  refine lv_goto (tgt := 18) hx hb dL_law_1110 (by decide) ?_
  exact hag (x3 + (4 : Int32)) M N H locs ls h hH (lv_sub hl [1, 2, 3, 0] rfl)
def pL_b172 (xs : Nat → Int32) (L : Nat) (ag : Int32 → zM → zM → Prop) (x3 : Int32) (M N : zM) : Prop :=
  pX5_relay M  (fun r173 M173 => pX6_relay N  (fun r177 N177 => (r173 = r177 → pL_b1107 ag x3 M173 N177) ∧ (¬ (r173 = r177) → False)))
set_option maxHeartbeats 4000000 in
set_option maxRecDepth 100000 in
theorem wL_b172 (hF : CallFix p m c cL_law 4 s #[Value.ref b] lw_tbl RL) (hSt : zSt G s) (hr : meth.sig.returnType = ret) (hlocks : meth.locks = false) (hX : va_X b L xs s s.heap) (hbl : b < s.heap.size) (hbA : ¬ zAA G b) (hnew : ∀ q, zAA G q → s.heap.size ≤ q) {ag : Int32 → zM → zM → Prop} (hag : ∀ (x3 : Int32) (M N : zM) (H : Heap) (locs : List Loc) (ls : Array Slot), ag x3 M N → zH G true s H locs M N → lv_has ls 4 [(0, .ref b), (1, .ref (G.1 0)), (2, .ref (G.1 21)), (3, .int x3)] → W p l e room_1 s m #[Value.ref b] below meth c H locs 43 4721 (lw_Z below #[Value.ref b] s) (F0 m 18 ls [])) (x3 : Int32) (M N : zM) (H : Heap) (locs : List Loc) (ls : Array Slot) (hH : zH G true s H locs M N) (hl : lv_has ls 4 [(0, .ref b), (1, .ref (G.1 0)), (2, .ref (G.1 21)), (3, .int x3)]) (h : pL_b172 xs L ag x3 M N) : W p l e room_1 s m #[Value.ref b] below meth c H locs 43 4721 (lw_Z below #[Value.ref b] s) (F0 m 172 ls []) := by
  obtain ⟨hx, hb, hml, hown, hts⟩ := id hF
  unfold pL_b172 at h
  refine lv_aload_n hx hb dL_law_172 rfl (lv_at hl 1 rfl) ?_
  refine zcalli hH (va_runV (As := []) (rest := []) hF (kX5_relay l G M N _ h) (cwV 0 hts zgL_X5_relay rfl rfl rfl ⟨rfl, zdX5_relay⟩ ⟨Nat.le_of_ble_eq_true rfl, Nat.le_of_ble_eq_true rfl⟩) (zpreV hSt hH 0 (by decide) rfl (zE_0 _ _ _) (q := (RX5, TX5, 5)) rfl []) rfl rfl hl.1 rfl (lv_room (Nat.le_of_ble_eq_true rfl)) dL_law_173 ⟨Nat.le_of_ble_eq_true rfl, Nat.le_of_ble_eq_true rfl⟩) (fun r173 M173 H locs h hH => ?_)
  refine lv_aload_n hx hb dL_law_176 rfl (lv_at hl 2 rfl) ?_
  have hH := zH_sw hH
  refine zcalli hH (va_runV (As := []) (rest := [.int r173]) hF (kX6_relay l G N M173 _ h) (cwV 0 hts zgL_X6_relay rfl rfl rfl ⟨rfl, zdX6_relay⟩ ⟨Nat.le_of_ble_eq_true rfl, Nat.le_of_ble_eq_true rfl⟩) (zpreV hSt hH 21 (by decide) rfl (zE_21 _ _ _) (q := (RX6, TX6, 31)) rfl []) rfl rfl hl.1 rfl (lv_room (Nat.le_of_ble_eq_true rfl)) dL_law_177 ⟨Nat.le_of_ble_eq_true rfl, Nat.le_of_ble_eq_true rfl⟩) (fun r177 N177 H locs h hH => ?_)
  have hH := zH_ws hH
  refine lv_icmp_eq (tgt := 1107) hx hb dL_law_180 (by decide) (fun q180 => ?_) (fun q180 => ?_)
  · have h := h.1 q180
    exact wL_b1107 hF hSt hr hlocks hX hbl hbA hnew hag x3 M173 N177 H locs ls hH (lv_sub hl [0, 1, 2, 3] rfl) h
  · have h := h.2 q180
    refine lv_iconst (v := (0 : Int32)) hx hb dL_law_183 (by decide) ?_
    exact h.elim
def pL_b185 (xs : Nat → Int32) (L : Nat) (ag : Int32 → zM → zM → Prop) (x3 : Int32) (M N : zM) : Prop :=
  vp_in (x3 + (1 : Int32)) L ∧ vp_in (x3 + (2 : Int32)) L ∧ pX5_line M (xs ((x3 + (1 : Int32))).toNatClampNeg) (xs ((x3 + (2 : Int32))).toNatClampNeg) (fun r196 M196 => vp_in (x3 + (1 : Int32)) L ∧ vp_in (x3 + (2 : Int32)) L ∧ pX6_line N (xs ((x3 + (1 : Int32))).toNatClampNeg) (xs ((x3 + (2 : Int32))).toNatClampNeg) (fun r210 N210 => (r196 = r210 → pL_b1107 ag x3 M196 N210) ∧ (¬ (r196 = r210) → False)))
set_option maxHeartbeats 4000000 in
set_option maxRecDepth 100000 in
theorem wL_b185 (hF : CallFix p m c cL_law 4 s #[Value.ref b] lw_tbl RL) (hSt : zSt G s) (hr : meth.sig.returnType = ret) (hlocks : meth.locks = false) (hX : va_X b L xs s s.heap) (hbl : b < s.heap.size) (hbA : ¬ zAA G b) (hnew : ∀ q, zAA G q → s.heap.size ≤ q) {ag : Int32 → zM → zM → Prop} (hag : ∀ (x3 : Int32) (M N : zM) (H : Heap) (locs : List Loc) (ls : Array Slot), ag x3 M N → zH G true s H locs M N → lv_has ls 4 [(0, .ref b), (1, .ref (G.1 0)), (2, .ref (G.1 21)), (3, .int x3)] → W p l e room_1 s m #[Value.ref b] below meth c H locs 43 4721 (lw_Z below #[Value.ref b] s) (F0 m 18 ls [])) (x3 : Int32) (M N : zM) (H : Heap) (locs : List Loc) (ls : Array Slot) (hH : zH G true s H locs M N) (hl : lv_has ls 4 [(0, .ref b), (1, .ref (G.1 0)), (2, .ref (G.1 21)), (3, .int x3)]) (h : pL_b185 xs L ag x3 M N) : W p l e room_1 s m #[Value.ref b] below meth c H locs 43 4721 (lw_Z below #[Value.ref b] s) (F0 m 185 ls []) := by
  obtain ⟨hx, hb, hml, hown, hts⟩ := id hF
  unfold pL_b185 at h
  refine lv_aload_n hx hb dL_law_185 rfl (lv_at hl 1 rfl) ?_
  refine lv_aload_n hx hb dL_law_186 rfl (lv_at hl 0 rfl) ?_
  refine lv_iload_n hx hb dL_law_187 rfl (lv_at hl 3 rfl) ?_
  refine lv_iconst (v := (1 : Int32)) hx hb dL_law_188 (by decide) ?_
  refine lv_iadd hx hb dL_law_189 ?_
  obtain ⟨q190, h⟩ := h
  refine va_sld hx hb hX hbl hbA hH.2 q190 dL_law_190 ?_
  refine lv_aload_n hx hb dL_law_191 rfl (lv_at hl 0 rfl) ?_
  refine lv_iload_n hx hb dL_law_192 rfl (lv_at hl 3 rfl) ?_
  refine lv_iconst (v := (2 : Int32)) hx hb dL_law_193 (by decide) ?_
  refine lv_iadd hx hb dL_law_194 ?_
  obtain ⟨q195, h⟩ := h
  refine va_sld hx hb hX hbl hbA hH.2 q195 dL_law_195 ?_
  refine zcalli hH (va_runV (As := [.int (xs ((x3 + (1 : Int32))).toNatClampNeg), .int (xs ((x3 + (2 : Int32))).toNatClampNeg)]) (rest := []) hF (kX5_line l G M N (xs ((x3 + (1 : Int32))).toNatClampNeg) (xs ((x3 + (2 : Int32))).toNatClampNeg) _ h) (cwV 2 hts zgL_X5_line rfl rfl rfl ⟨rfl, zdX5_line⟩ ⟨Nat.le_of_ble_eq_true rfl, Nat.le_of_ble_eq_true rfl⟩) (zpreV hSt hH 0 (by decide) rfl (zE_0 _ _ _) (q := (RX5, TX5, 5)) rfl [.int (xs ((x3 + (1 : Int32))).toNatClampNeg), .int (xs ((x3 + (2 : Int32))).toNatClampNeg)]) rfl rfl hl.1 rfl (lv_room (Nat.le_of_ble_eq_true rfl)) dL_law_196 ⟨Nat.le_of_ble_eq_true rfl, Nat.le_of_ble_eq_true rfl⟩) (fun r196 M196 H locs h hH => ?_)
  refine lv_aload_n hx hb dL_law_199 rfl (lv_at hl 2 rfl) ?_
  refine lv_aload_n hx hb dL_law_200 rfl (lv_at hl 0 rfl) ?_
  refine lv_iload_n hx hb dL_law_201 rfl (lv_at hl 3 rfl) ?_
  refine lv_iconst (v := (1 : Int32)) hx hb dL_law_202 (by decide) ?_
  refine lv_iadd hx hb dL_law_203 ?_
  obtain ⟨q204, h⟩ := h
  refine va_sld hx hb hX hbl hbA hH.2 q204 dL_law_204 ?_
  refine lv_aload_n hx hb dL_law_205 rfl (lv_at hl 0 rfl) ?_
  refine lv_iload_n hx hb dL_law_206 rfl (lv_at hl 3 rfl) ?_
  refine lv_iconst (v := (2 : Int32)) hx hb dL_law_207 (by decide) ?_
  refine lv_iadd hx hb dL_law_208 ?_
  obtain ⟨q209, h⟩ := h
  refine va_sld hx hb hX hbl hbA hH.2 q209 dL_law_209 ?_
  have hH := zH_sw hH
  refine zcalli hH (va_runV (As := [.int (xs ((x3 + (1 : Int32))).toNatClampNeg), .int (xs ((x3 + (2 : Int32))).toNatClampNeg)]) (rest := [.int r196]) hF (kX6_line l G N M196 (xs ((x3 + (1 : Int32))).toNatClampNeg) (xs ((x3 + (2 : Int32))).toNatClampNeg) _ h) (cwV 2 hts zgL_X6_line rfl rfl rfl ⟨rfl, zdX6_line⟩ ⟨Nat.le_of_ble_eq_true rfl, Nat.le_of_ble_eq_true rfl⟩) (zpreV hSt hH 21 (by decide) rfl (zE_21 _ _ _) (q := (RX6, TX6, 31)) rfl [.int (xs ((x3 + (1 : Int32))).toNatClampNeg), .int (xs ((x3 + (2 : Int32))).toNatClampNeg)]) rfl rfl hl.1 rfl (lv_room (Nat.le_of_ble_eq_true rfl)) dL_law_210 ⟨Nat.le_of_ble_eq_true rfl, Nat.le_of_ble_eq_true rfl⟩) (fun r210 N210 H locs h hH => ?_)
  have hH := zH_ws hH
  refine lv_icmp_eq (tgt := 1107) hx hb dL_law_213 (by decide) (fun q213 => ?_) (fun q213 => ?_)
  · have h := h.1 q213
    exact wL_b1107 hF hSt hr hlocks hX hbl hbA hnew hag x3 M196 N210 H locs ls hH (lv_sub hl [0, 1, 2, 3] rfl) h
  · have h := h.2 q213
    refine lv_iconst (v := (0 : Int32)) hx hb dL_law_216 (by decide) ?_
    exact h.elim
def pL_b218 (xs : Nat → Int32) (L : Nat) (ag : Int32 → zM → zM → Prop) (x3 : Int32) (M N : zM) : Prop :=
  vp_in (x3 + (1 : Int32)) L ∧ pX5_pieces M (xs ((x3 + (1 : Int32))).toNatClampNeg) (fun r224 M224 => vp_in (x3 + (1 : Int32)) L ∧ pX6_pieces N (xs ((x3 + (1 : Int32))).toNatClampNeg) (fun r233 N233 => (r224 = r233 → pL_b1107 ag x3 M224 N233) ∧ (¬ (r224 = r233) → False)))
set_option maxHeartbeats 4000000 in
set_option maxRecDepth 100000 in
theorem wL_b218 (hF : CallFix p m c cL_law 4 s #[Value.ref b] lw_tbl RL) (hSt : zSt G s) (hr : meth.sig.returnType = ret) (hlocks : meth.locks = false) (hX : va_X b L xs s s.heap) (hbl : b < s.heap.size) (hbA : ¬ zAA G b) (hnew : ∀ q, zAA G q → s.heap.size ≤ q) {ag : Int32 → zM → zM → Prop} (hag : ∀ (x3 : Int32) (M N : zM) (H : Heap) (locs : List Loc) (ls : Array Slot), ag x3 M N → zH G true s H locs M N → lv_has ls 4 [(0, .ref b), (1, .ref (G.1 0)), (2, .ref (G.1 21)), (3, .int x3)] → W p l e room_1 s m #[Value.ref b] below meth c H locs 43 4721 (lw_Z below #[Value.ref b] s) (F0 m 18 ls [])) (x3 : Int32) (M N : zM) (H : Heap) (locs : List Loc) (ls : Array Slot) (hH : zH G true s H locs M N) (hl : lv_has ls 4 [(0, .ref b), (1, .ref (G.1 0)), (2, .ref (G.1 21)), (3, .int x3)]) (h : pL_b218 xs L ag x3 M N) : W p l e room_1 s m #[Value.ref b] below meth c H locs 43 4721 (lw_Z below #[Value.ref b] s) (F0 m 218 ls []) := by
  obtain ⟨hx, hb, hml, hown, hts⟩ := id hF
  unfold pL_b218 at h
  refine lv_aload_n hx hb dL_law_218 rfl (lv_at hl 1 rfl) ?_
  refine lv_aload_n hx hb dL_law_219 rfl (lv_at hl 0 rfl) ?_
  refine lv_iload_n hx hb dL_law_220 rfl (lv_at hl 3 rfl) ?_
  refine lv_iconst (v := (1 : Int32)) hx hb dL_law_221 (by decide) ?_
  refine lv_iadd hx hb dL_law_222 ?_
  obtain ⟨q223, h⟩ := h
  refine va_sld hx hb hX hbl hbA hH.2 q223 dL_law_223 ?_
  refine zcalli hH (va_runV (As := [.int (xs ((x3 + (1 : Int32))).toNatClampNeg)]) (rest := []) hF (kX5_pieces l G M N (xs ((x3 + (1 : Int32))).toNatClampNeg) _ h) (cwV 1 hts zgL_X5_pieces rfl rfl rfl ⟨rfl, zdX5_pieces⟩ ⟨Nat.le_of_ble_eq_true rfl, Nat.le_of_ble_eq_true rfl⟩) (zpreV hSt hH 0 (by decide) rfl (zE_0 _ _ _) (q := (RX5, TX5, 5)) rfl [.int (xs ((x3 + (1 : Int32))).toNatClampNeg)]) rfl rfl hl.1 rfl (lv_room (Nat.le_of_ble_eq_true rfl)) dL_law_224 ⟨Nat.le_of_ble_eq_true rfl, Nat.le_of_ble_eq_true rfl⟩) (fun r224 M224 H locs h hH => ?_)
  refine lv_aload_n hx hb dL_law_227 rfl (lv_at hl 2 rfl) ?_
  refine lv_aload_n hx hb dL_law_228 rfl (lv_at hl 0 rfl) ?_
  refine lv_iload_n hx hb dL_law_229 rfl (lv_at hl 3 rfl) ?_
  refine lv_iconst (v := (1 : Int32)) hx hb dL_law_230 (by decide) ?_
  refine lv_iadd hx hb dL_law_231 ?_
  obtain ⟨q232, h⟩ := h
  refine va_sld hx hb hX hbl hbA hH.2 q232 dL_law_232 ?_
  have hH := zH_sw hH
  refine zcalli hH (va_runV (As := [.int (xs ((x3 + (1 : Int32))).toNatClampNeg)]) (rest := [.int r224]) hF (kX6_pieces l G N M224 (xs ((x3 + (1 : Int32))).toNatClampNeg) _ h) (cwV 1 hts zgL_X6_pieces rfl rfl rfl ⟨rfl, zdX6_pieces⟩ ⟨Nat.le_of_ble_eq_true rfl, Nat.le_of_ble_eq_true rfl⟩) (zpreV hSt hH 21 (by decide) rfl (zE_21 _ _ _) (q := (RX6, TX6, 31)) rfl [.int (xs ((x3 + (1 : Int32))).toNatClampNeg)]) rfl rfl hl.1 rfl (lv_room (Nat.le_of_ble_eq_true rfl)) dL_law_233 ⟨Nat.le_of_ble_eq_true rfl, Nat.le_of_ble_eq_true rfl⟩) (fun r233 N233 H locs h hH => ?_)
  have hH := zH_ws hH
  refine lv_icmp_eq (tgt := 1107) hx hb dL_law_236 (by decide) (fun q236 => ?_) (fun q236 => ?_)
  · have h := h.1 q236
    exact wL_b1107 hF hSt hr hlocks hX hbl hbA hnew hag x3 M224 N233 H locs ls hH (lv_sub hl [0, 1, 2, 3] rfl) h
  · have h := h.2 q236
    refine lv_iconst (v := (0 : Int32)) hx hb dL_law_239 (by decide) ?_
    exact h.elim
def pL_b241 (xs : Nat → Int32) (L : Nat) (ag : Int32 → zM → zM → Prop) (x3 : Int32) (M N : zM) : Prop :=
  vp_in (x3 + (1 : Int32)) L ∧ vp_in (x3 + (2 : Int32)) L ∧ vp_in (x3 + (3 : Int32)) L ∧ pX5_piece M (xs ((x3 + (1 : Int32))).toNatClampNeg) ((((xs ((x3 + (2 : Int32))).toNatClampNeg)).toInt64 <<< (((32 : Int32)).toInt64 &&& 63)) ||| (((xs ((x3 + (3 : Int32))).toNatClampNeg)).toInt64 &&& (4294967295 : Int64))) (fun r267 M267 => vp_in (x3 + (1 : Int32)) L ∧ vp_in (x3 + (2 : Int32)) L ∧ vp_in (x3 + (3 : Int32)) L ∧ pX6_piece N (xs ((x3 + (1 : Int32))).toNatClampNeg) ((((xs ((x3 + (2 : Int32))).toNatClampNeg)).toInt64 <<< (((32 : Int32)).toInt64 &&& 63)) ||| (((xs ((x3 + (3 : Int32))).toNatClampNeg)).toInt64 &&& (4294967295 : Int64))) (fun r296 N296 => (r267 = r296 → pL_b1107 ag x3 M267 N296) ∧ (¬ (r267 = r296) → False)))
set_option maxHeartbeats 4000000 in
set_option maxRecDepth 100000 in
theorem wL_b241 (hF : CallFix p m c cL_law 4 s #[Value.ref b] lw_tbl RL) (hSt : zSt G s) (hr : meth.sig.returnType = ret) (hlocks : meth.locks = false) (hX : va_X b L xs s s.heap) (hbl : b < s.heap.size) (hbA : ¬ zAA G b) (hnew : ∀ q, zAA G q → s.heap.size ≤ q) {ag : Int32 → zM → zM → Prop} (hag : ∀ (x3 : Int32) (M N : zM) (H : Heap) (locs : List Loc) (ls : Array Slot), ag x3 M N → zH G true s H locs M N → lv_has ls 4 [(0, .ref b), (1, .ref (G.1 0)), (2, .ref (G.1 21)), (3, .int x3)] → W p l e room_1 s m #[Value.ref b] below meth c H locs 43 4721 (lw_Z below #[Value.ref b] s) (F0 m 18 ls [])) (x3 : Int32) (M N : zM) (H : Heap) (locs : List Loc) (ls : Array Slot) (hH : zH G true s H locs M N) (hl : lv_has ls 4 [(0, .ref b), (1, .ref (G.1 0)), (2, .ref (G.1 21)), (3, .int x3)]) (h : pL_b241 xs L ag x3 M N) : W p l e room_1 s m #[Value.ref b] below meth c H locs 43 4721 (lw_Z below #[Value.ref b] s) (F0 m 241 ls []) := by
  obtain ⟨hx, hb, hml, hown, hts⟩ := id hF
  unfold pL_b241 at h
  refine lv_aload_n hx hb dL_law_241 rfl (lv_at hl 1 rfl) ?_
  refine lv_aload_n hx hb dL_law_242 rfl (lv_at hl 0 rfl) ?_
  refine lv_iload_n hx hb dL_law_243 rfl (lv_at hl 3 rfl) ?_
  refine lv_iconst (v := (1 : Int32)) hx hb dL_law_244 (by decide) ?_
  refine lv_iadd hx hb dL_law_245 ?_
  obtain ⟨q246, h⟩ := h
  refine va_sld hx hb hX hbl hbA hH.2 q246 dL_law_246 ?_
  refine lv_aload_n hx hb dL_law_247 rfl (lv_at hl 0 rfl) ?_
  refine lv_iload_n hx hb dL_law_248 rfl (lv_at hl 3 rfl) ?_
  refine lv_iconst (v := (2 : Int32)) hx hb dL_law_249 (by decide) ?_
  refine lv_iadd hx hb dL_law_250 ?_
  obtain ⟨q251, h⟩ := h
  refine va_sld hx hb hX hbl hbA hH.2 q251 dL_law_251 ?_
  refine lv_i2l hx hb dL_law_252 rfl ?_
  refine lv_bipush (v := (32 : Int32)) hx hb dL_law_253 (by decide) ?_
  refine lv_lshl hx hb dL_law_255 rfl ?_
  refine lv_aload_n hx hb dL_law_256 rfl (lv_at hl 0 rfl) ?_
  refine lv_iload_n hx hb dL_law_257 rfl (lv_at hl 3 rfl) ?_
  refine lv_iconst (v := (3 : Int32)) hx hb dL_law_258 (by decide) ?_
  refine lv_iadd hx hb dL_law_259 ?_
  obtain ⟨q260, h⟩ := h
  refine va_sld hx hb hX hbl hbA hH.2 q260 dL_law_260 ?_
  refine lv_i2l hx hb dL_law_261 rfl ?_
  refine lv_ldc2 (v := (4294967295 : Int64)) hx hb hown (hts _ zl_749) dL_law_262 ?_
  refine lv_land hx hb dL_law_265 ?_
  refine lv_lor hx hb dL_law_266 ?_
  refine zcalli hH (va_runV (As := [.int (xs ((x3 + (1 : Int32))).toNatClampNeg), .long ((((xs ((x3 + (2 : Int32))).toNatClampNeg)).toInt64 <<< (((32 : Int32)).toInt64 &&& 63)) ||| (((xs ((x3 + (3 : Int32))).toNatClampNeg)).toInt64 &&& (4294967295 : Int64)))]) (rest := []) hF (kX5_piece l G M N (xs ((x3 + (1 : Int32))).toNatClampNeg) ((((xs ((x3 + (2 : Int32))).toNatClampNeg)).toInt64 <<< (((32 : Int32)).toInt64 &&& 63)) ||| (((xs ((x3 + (3 : Int32))).toNatClampNeg)).toInt64 &&& (4294967295 : Int64))) _ h) (cwV 2 hts zgL_X5_piece rfl rfl rfl ⟨rfl, zdX5_piece⟩ ⟨Nat.le_of_ble_eq_true rfl, Nat.le_of_ble_eq_true rfl⟩) (zpreV hSt hH 0 (by decide) rfl (zE_0 _ _ _) (q := (RX5, TX5, 5)) rfl [.int (xs ((x3 + (1 : Int32))).toNatClampNeg), .long ((((xs ((x3 + (2 : Int32))).toNatClampNeg)).toInt64 <<< (((32 : Int32)).toInt64 &&& 63)) ||| (((xs ((x3 + (3 : Int32))).toNatClampNeg)).toInt64 &&& (4294967295 : Int64)))]) rfl rfl hl.1 rfl (lv_room (Nat.le_of_ble_eq_true rfl)) dL_law_267 ⟨Nat.le_of_ble_eq_true rfl, Nat.le_of_ble_eq_true rfl⟩) (fun r267 M267 H locs h hH => ?_)
  refine lv_aload_n hx hb dL_law_270 rfl (lv_at hl 2 rfl) ?_
  refine lv_aload_n hx hb dL_law_271 rfl (lv_at hl 0 rfl) ?_
  refine lv_iload_n hx hb dL_law_272 rfl (lv_at hl 3 rfl) ?_
  refine lv_iconst (v := (1 : Int32)) hx hb dL_law_273 (by decide) ?_
  refine lv_iadd hx hb dL_law_274 ?_
  obtain ⟨q275, h⟩ := h
  refine va_sld hx hb hX hbl hbA hH.2 q275 dL_law_275 ?_
  refine lv_aload_n hx hb dL_law_276 rfl (lv_at hl 0 rfl) ?_
  refine lv_iload_n hx hb dL_law_277 rfl (lv_at hl 3 rfl) ?_
  refine lv_iconst (v := (2 : Int32)) hx hb dL_law_278 (by decide) ?_
  refine lv_iadd hx hb dL_law_279 ?_
  obtain ⟨q280, h⟩ := h
  refine va_sld hx hb hX hbl hbA hH.2 q280 dL_law_280 ?_
  refine lv_i2l hx hb dL_law_281 rfl ?_
  refine lv_bipush (v := (32 : Int32)) hx hb dL_law_282 (by decide) ?_
  refine lv_lshl hx hb dL_law_284 rfl ?_
  refine lv_aload_n hx hb dL_law_285 rfl (lv_at hl 0 rfl) ?_
  refine lv_iload_n hx hb dL_law_286 rfl (lv_at hl 3 rfl) ?_
  refine lv_iconst (v := (3 : Int32)) hx hb dL_law_287 (by decide) ?_
  refine lv_iadd hx hb dL_law_288 ?_
  obtain ⟨q289, h⟩ := h
  refine va_sld hx hb hX hbl hbA hH.2 q289 dL_law_289 ?_
  refine lv_i2l hx hb dL_law_290 rfl ?_
  refine lv_ldc2 (v := (4294967295 : Int64)) hx hb hown (hts _ zl_749) dL_law_291 ?_
  refine lv_land hx hb dL_law_294 ?_
  refine lv_lor hx hb dL_law_295 ?_
  have hH := zH_sw hH
  refine zcalli hH (va_runV (As := [.int (xs ((x3 + (1 : Int32))).toNatClampNeg), .long ((((xs ((x3 + (2 : Int32))).toNatClampNeg)).toInt64 <<< (((32 : Int32)).toInt64 &&& 63)) ||| (((xs ((x3 + (3 : Int32))).toNatClampNeg)).toInt64 &&& (4294967295 : Int64)))]) (rest := [.int r267]) hF (kX6_piece l G N M267 (xs ((x3 + (1 : Int32))).toNatClampNeg) ((((xs ((x3 + (2 : Int32))).toNatClampNeg)).toInt64 <<< (((32 : Int32)).toInt64 &&& 63)) ||| (((xs ((x3 + (3 : Int32))).toNatClampNeg)).toInt64 &&& (4294967295 : Int64))) _ h) (cwV 2 hts zgL_X6_piece rfl rfl rfl ⟨rfl, zdX6_piece⟩ ⟨Nat.le_of_ble_eq_true rfl, Nat.le_of_ble_eq_true rfl⟩) (zpreV hSt hH 21 (by decide) rfl (zE_21 _ _ _) (q := (RX6, TX6, 31)) rfl [.int (xs ((x3 + (1 : Int32))).toNatClampNeg), .long ((((xs ((x3 + (2 : Int32))).toNatClampNeg)).toInt64 <<< (((32 : Int32)).toInt64 &&& 63)) ||| (((xs ((x3 + (3 : Int32))).toNatClampNeg)).toInt64 &&& (4294967295 : Int64)))]) rfl rfl hl.1 rfl (lv_room (Nat.le_of_ble_eq_true rfl)) dL_law_296 ⟨Nat.le_of_ble_eq_true rfl, Nat.le_of_ble_eq_true rfl⟩) (fun r296 N296 H locs h hH => ?_)
  have hH := zH_ws hH
  refine lv_icmp_eq (tgt := 1107) hx hb dL_law_299 (by decide) (fun q299 => ?_) (fun q299 => ?_)
  · have h := h.1 q299
    exact wL_b1107 hF hSt hr hlocks hX hbl hbA hnew hag x3 M267 N296 H locs ls hH (lv_sub hl [0, 1, 2, 3] rfl) h
  · have h := h.2 q299
    refine lv_iconst (v := (0 : Int32)) hx hb dL_law_302 (by decide) ?_
    exact h.elim
def pL_b304 (xs : Nat → Int32) (L : Nat) (ag : Int32 → zM → zM → Prop) (x3 : Int32) (M N : zM) : Prop :=
  vp_in (x3 + (1 : Int32)) L ∧ vp_in (x3 + (2 : Int32)) L ∧ pX5_end M (xs ((x3 + (1 : Int32))).toNatClampNeg) (xs ((x3 + (2 : Int32))).toNatClampNeg) (fun r315 M315 => vp_in (x3 + (1 : Int32)) L ∧ vp_in (x3 + (2 : Int32)) L ∧ pX6_end N (xs ((x3 + (1 : Int32))).toNatClampNeg) (xs ((x3 + (2 : Int32))).toNatClampNeg) (fun r329 N329 => (r315 = r329 → pL_b1107 ag x3 M315 N329) ∧ (¬ (r315 = r329) → False)))
set_option maxHeartbeats 4000000 in
set_option maxRecDepth 100000 in
theorem wL_b304 (hF : CallFix p m c cL_law 4 s #[Value.ref b] lw_tbl RL) (hSt : zSt G s) (hr : meth.sig.returnType = ret) (hlocks : meth.locks = false) (hX : va_X b L xs s s.heap) (hbl : b < s.heap.size) (hbA : ¬ zAA G b) (hnew : ∀ q, zAA G q → s.heap.size ≤ q) {ag : Int32 → zM → zM → Prop} (hag : ∀ (x3 : Int32) (M N : zM) (H : Heap) (locs : List Loc) (ls : Array Slot), ag x3 M N → zH G true s H locs M N → lv_has ls 4 [(0, .ref b), (1, .ref (G.1 0)), (2, .ref (G.1 21)), (3, .int x3)] → W p l e room_1 s m #[Value.ref b] below meth c H locs 43 4721 (lw_Z below #[Value.ref b] s) (F0 m 18 ls [])) (x3 : Int32) (M N : zM) (H : Heap) (locs : List Loc) (ls : Array Slot) (hH : zH G true s H locs M N) (hl : lv_has ls 4 [(0, .ref b), (1, .ref (G.1 0)), (2, .ref (G.1 21)), (3, .int x3)]) (h : pL_b304 xs L ag x3 M N) : W p l e room_1 s m #[Value.ref b] below meth c H locs 43 4721 (lw_Z below #[Value.ref b] s) (F0 m 304 ls []) := by
  obtain ⟨hx, hb, hml, hown, hts⟩ := id hF
  unfold pL_b304 at h
  refine lv_aload_n hx hb dL_law_304 rfl (lv_at hl 1 rfl) ?_
  refine lv_aload_n hx hb dL_law_305 rfl (lv_at hl 0 rfl) ?_
  refine lv_iload_n hx hb dL_law_306 rfl (lv_at hl 3 rfl) ?_
  refine lv_iconst (v := (1 : Int32)) hx hb dL_law_307 (by decide) ?_
  refine lv_iadd hx hb dL_law_308 ?_
  obtain ⟨q309, h⟩ := h
  refine va_sld hx hb hX hbl hbA hH.2 q309 dL_law_309 ?_
  refine lv_aload_n hx hb dL_law_310 rfl (lv_at hl 0 rfl) ?_
  refine lv_iload_n hx hb dL_law_311 rfl (lv_at hl 3 rfl) ?_
  refine lv_iconst (v := (2 : Int32)) hx hb dL_law_312 (by decide) ?_
  refine lv_iadd hx hb dL_law_313 ?_
  obtain ⟨q314, h⟩ := h
  refine va_sld hx hb hX hbl hbA hH.2 q314 dL_law_314 ?_
  refine zcalli hH (va_runV (As := [.int (xs ((x3 + (1 : Int32))).toNatClampNeg), .int (xs ((x3 + (2 : Int32))).toNatClampNeg)]) (rest := []) hF (kX5_end l G M N (xs ((x3 + (1 : Int32))).toNatClampNeg) (xs ((x3 + (2 : Int32))).toNatClampNeg) _ h) (cwV 2 hts zgL_X5_end rfl rfl rfl ⟨rfl, zdX5_end⟩ ⟨Nat.le_of_ble_eq_true rfl, Nat.le_of_ble_eq_true rfl⟩) (zpreV hSt hH 0 (by decide) rfl (zE_0 _ _ _) (q := (RX5, TX5, 5)) rfl [.int (xs ((x3 + (1 : Int32))).toNatClampNeg), .int (xs ((x3 + (2 : Int32))).toNatClampNeg)]) rfl rfl hl.1 rfl (lv_room (Nat.le_of_ble_eq_true rfl)) dL_law_315 ⟨Nat.le_of_ble_eq_true rfl, Nat.le_of_ble_eq_true rfl⟩) (fun r315 M315 H locs h hH => ?_)
  refine lv_aload_n hx hb dL_law_318 rfl (lv_at hl 2 rfl) ?_
  refine lv_aload_n hx hb dL_law_319 rfl (lv_at hl 0 rfl) ?_
  refine lv_iload_n hx hb dL_law_320 rfl (lv_at hl 3 rfl) ?_
  refine lv_iconst (v := (1 : Int32)) hx hb dL_law_321 (by decide) ?_
  refine lv_iadd hx hb dL_law_322 ?_
  obtain ⟨q323, h⟩ := h
  refine va_sld hx hb hX hbl hbA hH.2 q323 dL_law_323 ?_
  refine lv_aload_n hx hb dL_law_324 rfl (lv_at hl 0 rfl) ?_
  refine lv_iload_n hx hb dL_law_325 rfl (lv_at hl 3 rfl) ?_
  refine lv_iconst (v := (2 : Int32)) hx hb dL_law_326 (by decide) ?_
  refine lv_iadd hx hb dL_law_327 ?_
  obtain ⟨q328, h⟩ := h
  refine va_sld hx hb hX hbl hbA hH.2 q328 dL_law_328 ?_
  have hH := zH_sw hH
  refine zcalli hH (va_runV (As := [.int (xs ((x3 + (1 : Int32))).toNatClampNeg), .int (xs ((x3 + (2 : Int32))).toNatClampNeg)]) (rest := [.int r315]) hF (kX6_end l G N M315 (xs ((x3 + (1 : Int32))).toNatClampNeg) (xs ((x3 + (2 : Int32))).toNatClampNeg) _ h) (cwV 2 hts zgL_X6_end rfl rfl rfl ⟨rfl, zdX6_end⟩ ⟨Nat.le_of_ble_eq_true rfl, Nat.le_of_ble_eq_true rfl⟩) (zpreV hSt hH 21 (by decide) rfl (zE_21 _ _ _) (q := (RX6, TX6, 31)) rfl [.int (xs ((x3 + (1 : Int32))).toNatClampNeg), .int (xs ((x3 + (2 : Int32))).toNatClampNeg)]) rfl rfl hl.1 rfl (lv_room (Nat.le_of_ble_eq_true rfl)) dL_law_329 ⟨Nat.le_of_ble_eq_true rfl, Nat.le_of_ble_eq_true rfl⟩) (fun r329 N329 H locs h hH => ?_)
  have hH := zH_ws hH
  refine lv_icmp_eq (tgt := 1107) hx hb dL_law_332 (by decide) (fun q332 => ?_) (fun q332 => ?_)
  · have h := h.1 q332
    exact wL_b1107 hF hSt hr hlocks hX hbl hbA hnew hag x3 M315 N329 H locs ls hH (lv_sub hl [0, 1, 2, 3] rfl) h
  · have h := h.2 q332
    refine lv_iconst (v := (0 : Int32)) hx hb dL_law_335 (by decide) ?_
    exact h.elim
def pL_b337 (xs : Nat → Int32) (L : Nat) (ag : Int32 → zM → zM → Prop) (x3 : Int32) (M N : zM) : Prop :=
  vp_in (x3 + (1 : Int32)) L ∧ vp_in (x3 + (2 : Int32)) L ∧ vp_in (x3 + (3 : Int32)) L ∧ pX5_factor M (xs ((x3 + (1 : Int32))).toNatClampNeg) (xs ((x3 + (2 : Int32))).toNatClampNeg) (xs ((x3 + (3 : Int32))).toNatClampNeg) (fun r353 M353 => vp_in (x3 + (1 : Int32)) L ∧ vp_in (x3 + (2 : Int32)) L ∧ vp_in (x3 + (3 : Int32)) L ∧ pX6_factor N (xs ((x3 + (1 : Int32))).toNatClampNeg) (xs ((x3 + (2 : Int32))).toNatClampNeg) (xs ((x3 + (3 : Int32))).toNatClampNeg) (fun r372 N372 => (r353 = r372 → pL_b1107 ag x3 M353 N372) ∧ (¬ (r353 = r372) → False)))
set_option maxHeartbeats 4000000 in
set_option maxRecDepth 100000 in
theorem wL_b337 (hF : CallFix p m c cL_law 4 s #[Value.ref b] lw_tbl RL) (hSt : zSt G s) (hr : meth.sig.returnType = ret) (hlocks : meth.locks = false) (hX : va_X b L xs s s.heap) (hbl : b < s.heap.size) (hbA : ¬ zAA G b) (hnew : ∀ q, zAA G q → s.heap.size ≤ q) {ag : Int32 → zM → zM → Prop} (hag : ∀ (x3 : Int32) (M N : zM) (H : Heap) (locs : List Loc) (ls : Array Slot), ag x3 M N → zH G true s H locs M N → lv_has ls 4 [(0, .ref b), (1, .ref (G.1 0)), (2, .ref (G.1 21)), (3, .int x3)] → W p l e room_1 s m #[Value.ref b] below meth c H locs 43 4721 (lw_Z below #[Value.ref b] s) (F0 m 18 ls [])) (x3 : Int32) (M N : zM) (H : Heap) (locs : List Loc) (ls : Array Slot) (hH : zH G true s H locs M N) (hl : lv_has ls 4 [(0, .ref b), (1, .ref (G.1 0)), (2, .ref (G.1 21)), (3, .int x3)]) (h : pL_b337 xs L ag x3 M N) : W p l e room_1 s m #[Value.ref b] below meth c H locs 43 4721 (lw_Z below #[Value.ref b] s) (F0 m 337 ls []) := by
  obtain ⟨hx, hb, hml, hown, hts⟩ := id hF
  unfold pL_b337 at h
  refine lv_aload_n hx hb dL_law_337 rfl (lv_at hl 1 rfl) ?_
  refine lv_aload_n hx hb dL_law_338 rfl (lv_at hl 0 rfl) ?_
  refine lv_iload_n hx hb dL_law_339 rfl (lv_at hl 3 rfl) ?_
  refine lv_iconst (v := (1 : Int32)) hx hb dL_law_340 (by decide) ?_
  refine lv_iadd hx hb dL_law_341 ?_
  obtain ⟨q342, h⟩ := h
  refine va_sld hx hb hX hbl hbA hH.2 q342 dL_law_342 ?_
  refine lv_aload_n hx hb dL_law_343 rfl (lv_at hl 0 rfl) ?_
  refine lv_iload_n hx hb dL_law_344 rfl (lv_at hl 3 rfl) ?_
  refine lv_iconst (v := (2 : Int32)) hx hb dL_law_345 (by decide) ?_
  refine lv_iadd hx hb dL_law_346 ?_
  obtain ⟨q347, h⟩ := h
  refine va_sld hx hb hX hbl hbA hH.2 q347 dL_law_347 ?_
  refine lv_aload_n hx hb dL_law_348 rfl (lv_at hl 0 rfl) ?_
  refine lv_iload_n hx hb dL_law_349 rfl (lv_at hl 3 rfl) ?_
  refine lv_iconst (v := (3 : Int32)) hx hb dL_law_350 (by decide) ?_
  refine lv_iadd hx hb dL_law_351 ?_
  obtain ⟨q352, h⟩ := h
  refine va_sld hx hb hX hbl hbA hH.2 q352 dL_law_352 ?_
  refine zcalli hH (va_runV (As := [.int (xs ((x3 + (1 : Int32))).toNatClampNeg), .int (xs ((x3 + (2 : Int32))).toNatClampNeg), .int (xs ((x3 + (3 : Int32))).toNatClampNeg)]) (rest := []) hF (kX5_factor l G M N (xs ((x3 + (1 : Int32))).toNatClampNeg) (xs ((x3 + (2 : Int32))).toNatClampNeg) (xs ((x3 + (3 : Int32))).toNatClampNeg) _ h) (cwV 3 hts zgL_X5_factor rfl rfl rfl ⟨rfl, zdX5_factor⟩ ⟨Nat.le_of_ble_eq_true rfl, Nat.le_of_ble_eq_true rfl⟩) (zpreV hSt hH 0 (by decide) rfl (zE_0 _ _ _) (q := (RX5, TX5, 5)) rfl [.int (xs ((x3 + (1 : Int32))).toNatClampNeg), .int (xs ((x3 + (2 : Int32))).toNatClampNeg), .int (xs ((x3 + (3 : Int32))).toNatClampNeg)]) rfl rfl hl.1 rfl (lv_room (Nat.le_of_ble_eq_true rfl)) dL_law_353 ⟨Nat.le_of_ble_eq_true rfl, Nat.le_of_ble_eq_true rfl⟩) (fun r353 M353 H locs h hH => ?_)
  refine lv_aload_n hx hb dL_law_356 rfl (lv_at hl 2 rfl) ?_
  refine lv_aload_n hx hb dL_law_357 rfl (lv_at hl 0 rfl) ?_
  refine lv_iload_n hx hb dL_law_358 rfl (lv_at hl 3 rfl) ?_
  refine lv_iconst (v := (1 : Int32)) hx hb dL_law_359 (by decide) ?_
  refine lv_iadd hx hb dL_law_360 ?_
  obtain ⟨q361, h⟩ := h
  refine va_sld hx hb hX hbl hbA hH.2 q361 dL_law_361 ?_
  refine lv_aload_n hx hb dL_law_362 rfl (lv_at hl 0 rfl) ?_
  refine lv_iload_n hx hb dL_law_363 rfl (lv_at hl 3 rfl) ?_
  refine lv_iconst (v := (2 : Int32)) hx hb dL_law_364 (by decide) ?_
  refine lv_iadd hx hb dL_law_365 ?_
  obtain ⟨q366, h⟩ := h
  refine va_sld hx hb hX hbl hbA hH.2 q366 dL_law_366 ?_
  refine lv_aload_n hx hb dL_law_367 rfl (lv_at hl 0 rfl) ?_
  refine lv_iload_n hx hb dL_law_368 rfl (lv_at hl 3 rfl) ?_
  refine lv_iconst (v := (3 : Int32)) hx hb dL_law_369 (by decide) ?_
  refine lv_iadd hx hb dL_law_370 ?_
  obtain ⟨q371, h⟩ := h
  refine va_sld hx hb hX hbl hbA hH.2 q371 dL_law_371 ?_
  have hH := zH_sw hH
  refine zcalli hH (va_runV (As := [.int (xs ((x3 + (1 : Int32))).toNatClampNeg), .int (xs ((x3 + (2 : Int32))).toNatClampNeg), .int (xs ((x3 + (3 : Int32))).toNatClampNeg)]) (rest := [.int r353]) hF (kX6_factor l G N M353 (xs ((x3 + (1 : Int32))).toNatClampNeg) (xs ((x3 + (2 : Int32))).toNatClampNeg) (xs ((x3 + (3 : Int32))).toNatClampNeg) _ h) (cwV 3 hts zgL_X6_factor rfl rfl rfl ⟨rfl, zdX6_factor⟩ ⟨Nat.le_of_ble_eq_true rfl, Nat.le_of_ble_eq_true rfl⟩) (zpreV hSt hH 21 (by decide) rfl (zE_21 _ _ _) (q := (RX6, TX6, 31)) rfl [.int (xs ((x3 + (1 : Int32))).toNatClampNeg), .int (xs ((x3 + (2 : Int32))).toNatClampNeg), .int (xs ((x3 + (3 : Int32))).toNatClampNeg)]) rfl rfl hl.1 rfl (lv_room (Nat.le_of_ble_eq_true rfl)) dL_law_372 ⟨Nat.le_of_ble_eq_true rfl, Nat.le_of_ble_eq_true rfl⟩) (fun r372 N372 H locs h hH => ?_)
  have hH := zH_ws hH
  refine lv_icmp_eq (tgt := 1107) hx hb dL_law_375 (by decide) (fun q375 => ?_) (fun q375 => ?_)
  · have h := h.1 q375
    exact wL_b1107 hF hSt hr hlocks hX hbl hbA hnew hag x3 M353 N372 H locs ls hH (lv_sub hl [0, 1, 2, 3] rfl) h
  · have h := h.2 q375
    refine lv_iconst (v := (0 : Int32)) hx hb dL_law_378 (by decide) ?_
    exact h.elim
def pL_b380 (xs : Nat → Int32) (L : Nat) (ag : Int32 → zM → zM → Prop) (x3 : Int32) (M N : zM) : Prop :=
  vp_in (x3 + (1 : Int32)) L ∧ vp_in (x3 + (2 : Int32)) L ∧ pX5_keep M (xs ((x3 + (1 : Int32))).toNatClampNeg) (xs ((x3 + (2 : Int32))).toNatClampNeg) (fun r391 M391 => vp_in (x3 + (1 : Int32)) L ∧ vp_in (x3 + (2 : Int32)) L ∧ pX6_keep N (xs ((x3 + (1 : Int32))).toNatClampNeg) (xs ((x3 + (2 : Int32))).toNatClampNeg) (fun r405 N405 => (r391 = r405 → pL_b1107 ag x3 M391 N405) ∧ (¬ (r391 = r405) → False)))
set_option maxHeartbeats 4000000 in
set_option maxRecDepth 100000 in
theorem wL_b380 (hF : CallFix p m c cL_law 4 s #[Value.ref b] lw_tbl RL) (hSt : zSt G s) (hr : meth.sig.returnType = ret) (hlocks : meth.locks = false) (hX : va_X b L xs s s.heap) (hbl : b < s.heap.size) (hbA : ¬ zAA G b) (hnew : ∀ q, zAA G q → s.heap.size ≤ q) {ag : Int32 → zM → zM → Prop} (hag : ∀ (x3 : Int32) (M N : zM) (H : Heap) (locs : List Loc) (ls : Array Slot), ag x3 M N → zH G true s H locs M N → lv_has ls 4 [(0, .ref b), (1, .ref (G.1 0)), (2, .ref (G.1 21)), (3, .int x3)] → W p l e room_1 s m #[Value.ref b] below meth c H locs 43 4721 (lw_Z below #[Value.ref b] s) (F0 m 18 ls [])) (x3 : Int32) (M N : zM) (H : Heap) (locs : List Loc) (ls : Array Slot) (hH : zH G true s H locs M N) (hl : lv_has ls 4 [(0, .ref b), (1, .ref (G.1 0)), (2, .ref (G.1 21)), (3, .int x3)]) (h : pL_b380 xs L ag x3 M N) : W p l e room_1 s m #[Value.ref b] below meth c H locs 43 4721 (lw_Z below #[Value.ref b] s) (F0 m 380 ls []) := by
  obtain ⟨hx, hb, hml, hown, hts⟩ := id hF
  unfold pL_b380 at h
  refine lv_aload_n hx hb dL_law_380 rfl (lv_at hl 1 rfl) ?_
  refine lv_aload_n hx hb dL_law_381 rfl (lv_at hl 0 rfl) ?_
  refine lv_iload_n hx hb dL_law_382 rfl (lv_at hl 3 rfl) ?_
  refine lv_iconst (v := (1 : Int32)) hx hb dL_law_383 (by decide) ?_
  refine lv_iadd hx hb dL_law_384 ?_
  obtain ⟨q385, h⟩ := h
  refine va_sld hx hb hX hbl hbA hH.2 q385 dL_law_385 ?_
  refine lv_aload_n hx hb dL_law_386 rfl (lv_at hl 0 rfl) ?_
  refine lv_iload_n hx hb dL_law_387 rfl (lv_at hl 3 rfl) ?_
  refine lv_iconst (v := (2 : Int32)) hx hb dL_law_388 (by decide) ?_
  refine lv_iadd hx hb dL_law_389 ?_
  obtain ⟨q390, h⟩ := h
  refine va_sld hx hb hX hbl hbA hH.2 q390 dL_law_390 ?_
  refine zcalli hH (va_runV (As := [.int (xs ((x3 + (1 : Int32))).toNatClampNeg), .int (xs ((x3 + (2 : Int32))).toNatClampNeg)]) (rest := []) hF (kX5_keep l G M N (xs ((x3 + (1 : Int32))).toNatClampNeg) (xs ((x3 + (2 : Int32))).toNatClampNeg) _ h) (cwV 2 hts zgL_X5_keep rfl rfl rfl ⟨rfl, zdX5_keep⟩ ⟨Nat.le_of_ble_eq_true rfl, Nat.le_of_ble_eq_true rfl⟩) (zpreV hSt hH 0 (by decide) rfl (zE_0 _ _ _) (q := (RX5, TX5, 5)) rfl [.int (xs ((x3 + (1 : Int32))).toNatClampNeg), .int (xs ((x3 + (2 : Int32))).toNatClampNeg)]) rfl rfl hl.1 rfl (lv_room (Nat.le_of_ble_eq_true rfl)) dL_law_391 ⟨Nat.le_of_ble_eq_true rfl, Nat.le_of_ble_eq_true rfl⟩) (fun r391 M391 H locs h hH => ?_)
  refine lv_aload_n hx hb dL_law_394 rfl (lv_at hl 2 rfl) ?_
  refine lv_aload_n hx hb dL_law_395 rfl (lv_at hl 0 rfl) ?_
  refine lv_iload_n hx hb dL_law_396 rfl (lv_at hl 3 rfl) ?_
  refine lv_iconst (v := (1 : Int32)) hx hb dL_law_397 (by decide) ?_
  refine lv_iadd hx hb dL_law_398 ?_
  obtain ⟨q399, h⟩ := h
  refine va_sld hx hb hX hbl hbA hH.2 q399 dL_law_399 ?_
  refine lv_aload_n hx hb dL_law_400 rfl (lv_at hl 0 rfl) ?_
  refine lv_iload_n hx hb dL_law_401 rfl (lv_at hl 3 rfl) ?_
  refine lv_iconst (v := (2 : Int32)) hx hb dL_law_402 (by decide) ?_
  refine lv_iadd hx hb dL_law_403 ?_
  obtain ⟨q404, h⟩ := h
  refine va_sld hx hb hX hbl hbA hH.2 q404 dL_law_404 ?_
  have hH := zH_sw hH
  refine zcalli hH (va_runV (As := [.int (xs ((x3 + (1 : Int32))).toNatClampNeg), .int (xs ((x3 + (2 : Int32))).toNatClampNeg)]) (rest := [.int r391]) hF (kX6_keep l G N M391 (xs ((x3 + (1 : Int32))).toNatClampNeg) (xs ((x3 + (2 : Int32))).toNatClampNeg) _ h) (cwV 2 hts zgL_X6_keep rfl rfl rfl ⟨rfl, zdX6_keep⟩ ⟨Nat.le_of_ble_eq_true rfl, Nat.le_of_ble_eq_true rfl⟩) (zpreV hSt hH 21 (by decide) rfl (zE_21 _ _ _) (q := (RX6, TX6, 31)) rfl [.int (xs ((x3 + (1 : Int32))).toNatClampNeg), .int (xs ((x3 + (2 : Int32))).toNatClampNeg)]) rfl rfl hl.1 rfl (lv_room (Nat.le_of_ble_eq_true rfl)) dL_law_405 ⟨Nat.le_of_ble_eq_true rfl, Nat.le_of_ble_eq_true rfl⟩) (fun r405 N405 H locs h hH => ?_)
  have hH := zH_ws hH
  refine lv_icmp_eq (tgt := 1107) hx hb dL_law_408 (by decide) (fun q408 => ?_) (fun q408 => ?_)
  · have h := h.1 q408
    exact wL_b1107 hF hSt hr hlocks hX hbl hbA hnew hag x3 M391 N405 H locs ls hH (lv_sub hl [0, 1, 2, 3] rfl) h
  · have h := h.2 q408
    refine lv_iconst (v := (0 : Int32)) hx hb dL_law_411 (by decide) ?_
    exact h.elim
def pL_b413 (xs : Nat → Int32) (L : Nat) (ag : Int32 → zM → zM → Prop) (x3 : Int32) (M N : zM) : Prop :=
  vp_in (x3 + (1 : Int32)) L ∧ vp_in (x3 + (2 : Int32)) L ∧ pX5_broken M (xs ((x3 + (1 : Int32))).toNatClampNeg) (xs ((x3 + (2 : Int32))).toNatClampNeg) (fun r424 M424 => vp_in (x3 + (1 : Int32)) L ∧ vp_in (x3 + (2 : Int32)) L ∧ pX6_broken N (xs ((x3 + (1 : Int32))).toNatClampNeg) (xs ((x3 + (2 : Int32))).toNatClampNeg) (fun r438 N438 => (r424 = r438 → pL_b1107 ag x3 M424 N438) ∧ (¬ (r424 = r438) → False)))
set_option maxHeartbeats 4000000 in
set_option maxRecDepth 100000 in
theorem wL_b413 (hF : CallFix p m c cL_law 4 s #[Value.ref b] lw_tbl RL) (hSt : zSt G s) (hr : meth.sig.returnType = ret) (hlocks : meth.locks = false) (hX : va_X b L xs s s.heap) (hbl : b < s.heap.size) (hbA : ¬ zAA G b) (hnew : ∀ q, zAA G q → s.heap.size ≤ q) {ag : Int32 → zM → zM → Prop} (hag : ∀ (x3 : Int32) (M N : zM) (H : Heap) (locs : List Loc) (ls : Array Slot), ag x3 M N → zH G true s H locs M N → lv_has ls 4 [(0, .ref b), (1, .ref (G.1 0)), (2, .ref (G.1 21)), (3, .int x3)] → W p l e room_1 s m #[Value.ref b] below meth c H locs 43 4721 (lw_Z below #[Value.ref b] s) (F0 m 18 ls [])) (x3 : Int32) (M N : zM) (H : Heap) (locs : List Loc) (ls : Array Slot) (hH : zH G true s H locs M N) (hl : lv_has ls 4 [(0, .ref b), (1, .ref (G.1 0)), (2, .ref (G.1 21)), (3, .int x3)]) (h : pL_b413 xs L ag x3 M N) : W p l e room_1 s m #[Value.ref b] below meth c H locs 43 4721 (lw_Z below #[Value.ref b] s) (F0 m 413 ls []) := by
  obtain ⟨hx, hb, hml, hown, hts⟩ := id hF
  unfold pL_b413 at h
  refine lv_aload_n hx hb dL_law_413 rfl (lv_at hl 1 rfl) ?_
  refine lv_aload_n hx hb dL_law_414 rfl (lv_at hl 0 rfl) ?_
  refine lv_iload_n hx hb dL_law_415 rfl (lv_at hl 3 rfl) ?_
  refine lv_iconst (v := (1 : Int32)) hx hb dL_law_416 (by decide) ?_
  refine lv_iadd hx hb dL_law_417 ?_
  obtain ⟨q418, h⟩ := h
  refine va_sld hx hb hX hbl hbA hH.2 q418 dL_law_418 ?_
  refine lv_aload_n hx hb dL_law_419 rfl (lv_at hl 0 rfl) ?_
  refine lv_iload_n hx hb dL_law_420 rfl (lv_at hl 3 rfl) ?_
  refine lv_iconst (v := (2 : Int32)) hx hb dL_law_421 (by decide) ?_
  refine lv_iadd hx hb dL_law_422 ?_
  obtain ⟨q423, h⟩ := h
  refine va_sld hx hb hX hbl hbA hH.2 q423 dL_law_423 ?_
  refine zcalli hH (va_runV (As := [.int (xs ((x3 + (1 : Int32))).toNatClampNeg), .int (xs ((x3 + (2 : Int32))).toNatClampNeg)]) (rest := []) hF (kX5_broken l G M N (xs ((x3 + (1 : Int32))).toNatClampNeg) (xs ((x3 + (2 : Int32))).toNatClampNeg) _ h) (cwV 2 hts zgL_X5_broken rfl rfl rfl ⟨rfl, zdX5_broken⟩ ⟨Nat.le_of_ble_eq_true rfl, Nat.le_of_ble_eq_true rfl⟩) (zpreV hSt hH 0 (by decide) rfl (zE_0 _ _ _) (q := (RX5, TX5, 5)) rfl [.int (xs ((x3 + (1 : Int32))).toNatClampNeg), .int (xs ((x3 + (2 : Int32))).toNatClampNeg)]) rfl rfl hl.1 rfl (lv_room (Nat.le_of_ble_eq_true rfl)) dL_law_424 ⟨Nat.le_of_ble_eq_true rfl, Nat.le_of_ble_eq_true rfl⟩) (fun r424 M424 H locs h hH => ?_)
  refine lv_aload_n hx hb dL_law_427 rfl (lv_at hl 2 rfl) ?_
  refine lv_aload_n hx hb dL_law_428 rfl (lv_at hl 0 rfl) ?_
  refine lv_iload_n hx hb dL_law_429 rfl (lv_at hl 3 rfl) ?_
  refine lv_iconst (v := (1 : Int32)) hx hb dL_law_430 (by decide) ?_
  refine lv_iadd hx hb dL_law_431 ?_
  obtain ⟨q432, h⟩ := h
  refine va_sld hx hb hX hbl hbA hH.2 q432 dL_law_432 ?_
  refine lv_aload_n hx hb dL_law_433 rfl (lv_at hl 0 rfl) ?_
  refine lv_iload_n hx hb dL_law_434 rfl (lv_at hl 3 rfl) ?_
  refine lv_iconst (v := (2 : Int32)) hx hb dL_law_435 (by decide) ?_
  refine lv_iadd hx hb dL_law_436 ?_
  obtain ⟨q437, h⟩ := h
  refine va_sld hx hb hX hbl hbA hH.2 q437 dL_law_437 ?_
  have hH := zH_sw hH
  refine zcalli hH (va_runV (As := [.int (xs ((x3 + (1 : Int32))).toNatClampNeg), .int (xs ((x3 + (2 : Int32))).toNatClampNeg)]) (rest := [.int r424]) hF (kX6_broken l G N M424 (xs ((x3 + (1 : Int32))).toNatClampNeg) (xs ((x3 + (2 : Int32))).toNatClampNeg) _ h) (cwV 2 hts zgL_X6_broken rfl rfl rfl ⟨rfl, zdX6_broken⟩ ⟨Nat.le_of_ble_eq_true rfl, Nat.le_of_ble_eq_true rfl⟩) (zpreV hSt hH 21 (by decide) rfl (zE_21 _ _ _) (q := (RX6, TX6, 31)) rfl [.int (xs ((x3 + (1 : Int32))).toNatClampNeg), .int (xs ((x3 + (2 : Int32))).toNatClampNeg)]) rfl rfl hl.1 rfl (lv_room (Nat.le_of_ble_eq_true rfl)) dL_law_438 ⟨Nat.le_of_ble_eq_true rfl, Nat.le_of_ble_eq_true rfl⟩) (fun r438 N438 H locs h hH => ?_)
  have hH := zH_ws hH
  refine lv_icmp_eq (tgt := 1107) hx hb dL_law_441 (by decide) (fun q441 => ?_) (fun q441 => ?_)
  · have h := h.1 q441
    exact wL_b1107 hF hSt hr hlocks hX hbl hbA hnew hag x3 M424 N438 H locs ls hH (lv_sub hl [0, 1, 2, 3] rfl) h
  · have h := h.2 q441
    refine lv_iconst (v := (0 : Int32)) hx hb dL_law_444 (by decide) ?_
    exact h.elim
def pL_b446 (xs : Nat → Int32) (L : Nat) (ag : Int32 → zM → zM → Prop) (x3 : Int32) (M N : zM) : Prop :=
  vp_in (x3 + (1 : Int32)) L ∧ vp_in (x3 + (2 : Int32)) L ∧ vp_in (x3 + (3 : Int32)) L ∧ pX5_bend M (xs ((x3 + (1 : Int32))).toNatClampNeg) ((((xs ((x3 + (2 : Int32))).toNatClampNeg)).toInt64 <<< (((32 : Int32)).toInt64 &&& 63)) ||| (((xs ((x3 + (3 : Int32))).toNatClampNeg)).toInt64 &&& (4294967295 : Int64))) (fun r472 M472 => vp_in (x3 + (1 : Int32)) L ∧ vp_in (x3 + (2 : Int32)) L ∧ vp_in (x3 + (3 : Int32)) L ∧ pX6_bend N (xs ((x3 + (1 : Int32))).toNatClampNeg) ((((xs ((x3 + (2 : Int32))).toNatClampNeg)).toInt64 <<< (((32 : Int32)).toInt64 &&& 63)) ||| (((xs ((x3 + (3 : Int32))).toNatClampNeg)).toInt64 &&& (4294967295 : Int64))) (fun r501 N501 => (r472 = r501 → pL_b1107 ag x3 M472 N501) ∧ (¬ (r472 = r501) → False)))
set_option maxHeartbeats 4000000 in
set_option maxRecDepth 100000 in
theorem wL_b446 (hF : CallFix p m c cL_law 4 s #[Value.ref b] lw_tbl RL) (hSt : zSt G s) (hr : meth.sig.returnType = ret) (hlocks : meth.locks = false) (hX : va_X b L xs s s.heap) (hbl : b < s.heap.size) (hbA : ¬ zAA G b) (hnew : ∀ q, zAA G q → s.heap.size ≤ q) {ag : Int32 → zM → zM → Prop} (hag : ∀ (x3 : Int32) (M N : zM) (H : Heap) (locs : List Loc) (ls : Array Slot), ag x3 M N → zH G true s H locs M N → lv_has ls 4 [(0, .ref b), (1, .ref (G.1 0)), (2, .ref (G.1 21)), (3, .int x3)] → W p l e room_1 s m #[Value.ref b] below meth c H locs 43 4721 (lw_Z below #[Value.ref b] s) (F0 m 18 ls [])) (x3 : Int32) (M N : zM) (H : Heap) (locs : List Loc) (ls : Array Slot) (hH : zH G true s H locs M N) (hl : lv_has ls 4 [(0, .ref b), (1, .ref (G.1 0)), (2, .ref (G.1 21)), (3, .int x3)]) (h : pL_b446 xs L ag x3 M N) : W p l e room_1 s m #[Value.ref b] below meth c H locs 43 4721 (lw_Z below #[Value.ref b] s) (F0 m 446 ls []) := by
  obtain ⟨hx, hb, hml, hown, hts⟩ := id hF
  unfold pL_b446 at h
  refine lv_aload_n hx hb dL_law_446 rfl (lv_at hl 1 rfl) ?_
  refine lv_aload_n hx hb dL_law_447 rfl (lv_at hl 0 rfl) ?_
  refine lv_iload_n hx hb dL_law_448 rfl (lv_at hl 3 rfl) ?_
  refine lv_iconst (v := (1 : Int32)) hx hb dL_law_449 (by decide) ?_
  refine lv_iadd hx hb dL_law_450 ?_
  obtain ⟨q451, h⟩ := h
  refine va_sld hx hb hX hbl hbA hH.2 q451 dL_law_451 ?_
  refine lv_aload_n hx hb dL_law_452 rfl (lv_at hl 0 rfl) ?_
  refine lv_iload_n hx hb dL_law_453 rfl (lv_at hl 3 rfl) ?_
  refine lv_iconst (v := (2 : Int32)) hx hb dL_law_454 (by decide) ?_
  refine lv_iadd hx hb dL_law_455 ?_
  obtain ⟨q456, h⟩ := h
  refine va_sld hx hb hX hbl hbA hH.2 q456 dL_law_456 ?_
  refine lv_i2l hx hb dL_law_457 rfl ?_
  refine lv_bipush (v := (32 : Int32)) hx hb dL_law_458 (by decide) ?_
  refine lv_lshl hx hb dL_law_460 rfl ?_
  refine lv_aload_n hx hb dL_law_461 rfl (lv_at hl 0 rfl) ?_
  refine lv_iload_n hx hb dL_law_462 rfl (lv_at hl 3 rfl) ?_
  refine lv_iconst (v := (3 : Int32)) hx hb dL_law_463 (by decide) ?_
  refine lv_iadd hx hb dL_law_464 ?_
  obtain ⟨q465, h⟩ := h
  refine va_sld hx hb hX hbl hbA hH.2 q465 dL_law_465 ?_
  refine lv_i2l hx hb dL_law_466 rfl ?_
  refine lv_ldc2 (v := (4294967295 : Int64)) hx hb hown (hts _ zl_749) dL_law_467 ?_
  refine lv_land hx hb dL_law_470 ?_
  refine lv_lor hx hb dL_law_471 ?_
  refine zcalli hH (va_runV (As := [.int (xs ((x3 + (1 : Int32))).toNatClampNeg), .long ((((xs ((x3 + (2 : Int32))).toNatClampNeg)).toInt64 <<< (((32 : Int32)).toInt64 &&& 63)) ||| (((xs ((x3 + (3 : Int32))).toNatClampNeg)).toInt64 &&& (4294967295 : Int64)))]) (rest := []) hF (kX5_bend l G M N (xs ((x3 + (1 : Int32))).toNatClampNeg) ((((xs ((x3 + (2 : Int32))).toNatClampNeg)).toInt64 <<< (((32 : Int32)).toInt64 &&& 63)) ||| (((xs ((x3 + (3 : Int32))).toNatClampNeg)).toInt64 &&& (4294967295 : Int64))) _ h) (cwV 2 hts zgL_X5_bend rfl rfl rfl ⟨rfl, zdX5_bend⟩ ⟨Nat.le_of_ble_eq_true rfl, Nat.le_of_ble_eq_true rfl⟩) (zpreV hSt hH 0 (by decide) rfl (zE_0 _ _ _) (q := (RX5, TX5, 5)) rfl [.int (xs ((x3 + (1 : Int32))).toNatClampNeg), .long ((((xs ((x3 + (2 : Int32))).toNatClampNeg)).toInt64 <<< (((32 : Int32)).toInt64 &&& 63)) ||| (((xs ((x3 + (3 : Int32))).toNatClampNeg)).toInt64 &&& (4294967295 : Int64)))]) rfl rfl hl.1 rfl (lv_room (Nat.le_of_ble_eq_true rfl)) dL_law_472 ⟨Nat.le_of_ble_eq_true rfl, Nat.le_of_ble_eq_true rfl⟩) (fun r472 M472 H locs h hH => ?_)
  refine lv_aload_n hx hb dL_law_475 rfl (lv_at hl 2 rfl) ?_
  refine lv_aload_n hx hb dL_law_476 rfl (lv_at hl 0 rfl) ?_
  refine lv_iload_n hx hb dL_law_477 rfl (lv_at hl 3 rfl) ?_
  refine lv_iconst (v := (1 : Int32)) hx hb dL_law_478 (by decide) ?_
  refine lv_iadd hx hb dL_law_479 ?_
  obtain ⟨q480, h⟩ := h
  refine va_sld hx hb hX hbl hbA hH.2 q480 dL_law_480 ?_
  refine lv_aload_n hx hb dL_law_481 rfl (lv_at hl 0 rfl) ?_
  refine lv_iload_n hx hb dL_law_482 rfl (lv_at hl 3 rfl) ?_
  refine lv_iconst (v := (2 : Int32)) hx hb dL_law_483 (by decide) ?_
  refine lv_iadd hx hb dL_law_484 ?_
  obtain ⟨q485, h⟩ := h
  refine va_sld hx hb hX hbl hbA hH.2 q485 dL_law_485 ?_
  refine lv_i2l hx hb dL_law_486 rfl ?_
  refine lv_bipush (v := (32 : Int32)) hx hb dL_law_487 (by decide) ?_
  refine lv_lshl hx hb dL_law_489 rfl ?_
  refine lv_aload_n hx hb dL_law_490 rfl (lv_at hl 0 rfl) ?_
  refine lv_iload_n hx hb dL_law_491 rfl (lv_at hl 3 rfl) ?_
  refine lv_iconst (v := (3 : Int32)) hx hb dL_law_492 (by decide) ?_
  refine lv_iadd hx hb dL_law_493 ?_
  obtain ⟨q494, h⟩ := h
  refine va_sld hx hb hX hbl hbA hH.2 q494 dL_law_494 ?_
  refine lv_i2l hx hb dL_law_495 rfl ?_
  refine lv_ldc2 (v := (4294967295 : Int64)) hx hb hown (hts _ zl_749) dL_law_496 ?_
  refine lv_land hx hb dL_law_499 ?_
  refine lv_lor hx hb dL_law_500 ?_
  have hH := zH_sw hH
  refine zcalli hH (va_runV (As := [.int (xs ((x3 + (1 : Int32))).toNatClampNeg), .long ((((xs ((x3 + (2 : Int32))).toNatClampNeg)).toInt64 <<< (((32 : Int32)).toInt64 &&& 63)) ||| (((xs ((x3 + (3 : Int32))).toNatClampNeg)).toInt64 &&& (4294967295 : Int64)))]) (rest := [.int r472]) hF (kX6_bend l G N M472 (xs ((x3 + (1 : Int32))).toNatClampNeg) ((((xs ((x3 + (2 : Int32))).toNatClampNeg)).toInt64 <<< (((32 : Int32)).toInt64 &&& 63)) ||| (((xs ((x3 + (3 : Int32))).toNatClampNeg)).toInt64 &&& (4294967295 : Int64))) _ h) (cwV 2 hts zgL_X6_bend rfl rfl rfl ⟨rfl, zdX6_bend⟩ ⟨Nat.le_of_ble_eq_true rfl, Nat.le_of_ble_eq_true rfl⟩) (zpreV hSt hH 21 (by decide) rfl (zE_21 _ _ _) (q := (RX6, TX6, 31)) rfl [.int (xs ((x3 + (1 : Int32))).toNatClampNeg), .long ((((xs ((x3 + (2 : Int32))).toNatClampNeg)).toInt64 <<< (((32 : Int32)).toInt64 &&& 63)) ||| (((xs ((x3 + (3 : Int32))).toNatClampNeg)).toInt64 &&& (4294967295 : Int64)))]) rfl rfl hl.1 rfl (lv_room (Nat.le_of_ble_eq_true rfl)) dL_law_501 ⟨Nat.le_of_ble_eq_true rfl, Nat.le_of_ble_eq_true rfl⟩) (fun r501 N501 H locs h hH => ?_)
  have hH := zH_ws hH
  refine lv_icmp_eq (tgt := 1107) hx hb dL_law_504 (by decide) (fun q504 => ?_) (fun q504 => ?_)
  · have h := h.1 q504
    exact wL_b1107 hF hSt hr hlocks hX hbl hbA hnew hag x3 M472 N501 H locs ls hH (lv_sub hl [0, 1, 2, 3] rfl) h
  · have h := h.2 q504
    refine lv_iconst (v := (0 : Int32)) hx hb dL_law_507 (by decide) ?_
    exact h.elim
def pL_b509 (xs : Nat → Int32) (L : Nat) (ag : Int32 → zM → zM → Prop) (x3 : Int32) (M N : zM) : Prop :=
  vp_in (x3 + (1 : Int32)) L ∧ vp_in (x3 + (2 : Int32)) L ∧ pX5_about M (xs ((x3 + (1 : Int32))).toNatClampNeg) (xs ((x3 + (2 : Int32))).toNatClampNeg) (fun r520 => vp_in (x3 + (1 : Int32)) L ∧ vp_in (x3 + (2 : Int32)) L ∧ pX6_about N (xs ((x3 + (1 : Int32))).toNatClampNeg) (xs ((x3 + (2 : Int32))).toNatClampNeg) (fun r534 => (r520 = r534 → pL_b1107 ag x3 M N) ∧ (¬ (r520 = r534) → False)))
set_option maxHeartbeats 4000000 in
set_option maxRecDepth 100000 in
theorem wL_b509 (hF : CallFix p m c cL_law 4 s #[Value.ref b] lw_tbl RL) (hSt : zSt G s) (hr : meth.sig.returnType = ret) (hlocks : meth.locks = false) (hX : va_X b L xs s s.heap) (hbl : b < s.heap.size) (hbA : ¬ zAA G b) (hnew : ∀ q, zAA G q → s.heap.size ≤ q) {ag : Int32 → zM → zM → Prop} (hag : ∀ (x3 : Int32) (M N : zM) (H : Heap) (locs : List Loc) (ls : Array Slot), ag x3 M N → zH G true s H locs M N → lv_has ls 4 [(0, .ref b), (1, .ref (G.1 0)), (2, .ref (G.1 21)), (3, .int x3)] → W p l e room_1 s m #[Value.ref b] below meth c H locs 43 4721 (lw_Z below #[Value.ref b] s) (F0 m 18 ls [])) (x3 : Int32) (M N : zM) (H : Heap) (locs : List Loc) (ls : Array Slot) (hH : zH G true s H locs M N) (hl : lv_has ls 4 [(0, .ref b), (1, .ref (G.1 0)), (2, .ref (G.1 21)), (3, .int x3)]) (h : pL_b509 xs L ag x3 M N) : W p l e room_1 s m #[Value.ref b] below meth c H locs 43 4721 (lw_Z below #[Value.ref b] s) (F0 m 509 ls []) := by
  obtain ⟨hx, hb, hml, hown, hts⟩ := id hF
  unfold pL_b509 at h
  refine lv_aload_n hx hb dL_law_509 rfl (lv_at hl 1 rfl) ?_
  refine lv_aload_n hx hb dL_law_510 rfl (lv_at hl 0 rfl) ?_
  refine lv_iload_n hx hb dL_law_511 rfl (lv_at hl 3 rfl) ?_
  refine lv_iconst (v := (1 : Int32)) hx hb dL_law_512 (by decide) ?_
  refine lv_iadd hx hb dL_law_513 ?_
  obtain ⟨q514, h⟩ := h
  refine va_sld hx hb hX hbl hbA hH.2 q514 dL_law_514 ?_
  refine lv_aload_n hx hb dL_law_515 rfl (lv_at hl 0 rfl) ?_
  refine lv_iload_n hx hb dL_law_516 rfl (lv_at hl 3 rfl) ?_
  refine lv_iconst (v := (2 : Int32)) hx hb dL_law_517 (by decide) ?_
  refine lv_iadd hx hb dL_law_518 ?_
  obtain ⟨q519, h⟩ := h
  refine va_sld hx hb hX hbl hbA hH.2 q519 dL_law_519 ?_
  refine zcalliP hH (va_runV (As := [.int (xs ((x3 + (1 : Int32))).toNatClampNeg), .int (xs ((x3 + (2 : Int32))).toNatClampNeg)]) (rest := []) hF (kX5_about l G M N (xs ((x3 + (1 : Int32))).toNatClampNeg) (xs ((x3 + (2 : Int32))).toNatClampNeg) _ h) (cwV 2 hts zgL_X5_about rfl rfl rfl ⟨rfl, zdX5_about⟩ ⟨Nat.le_of_ble_eq_true rfl, Nat.le_of_ble_eq_true rfl⟩) (zpreV hSt hH 0 (by decide) rfl (zE_0 _ _ _) (q := (RX5, TX5, 5)) rfl [.int (xs ((x3 + (1 : Int32))).toNatClampNeg), .int (xs ((x3 + (2 : Int32))).toNatClampNeg)]) rfl rfl hl.1 rfl (lv_room (Nat.le_of_ble_eq_true rfl)) dL_law_520 ⟨Nat.le_of_ble_eq_true rfl, Nat.le_of_ble_eq_true rfl⟩) (fun r520 H locs h hH => ?_)
  refine lv_aload_n hx hb dL_law_523 rfl (lv_at hl 2 rfl) ?_
  refine lv_aload_n hx hb dL_law_524 rfl (lv_at hl 0 rfl) ?_
  refine lv_iload_n hx hb dL_law_525 rfl (lv_at hl 3 rfl) ?_
  refine lv_iconst (v := (1 : Int32)) hx hb dL_law_526 (by decide) ?_
  refine lv_iadd hx hb dL_law_527 ?_
  obtain ⟨q528, h⟩ := h
  refine va_sld hx hb hX hbl hbA hH.2 q528 dL_law_528 ?_
  refine lv_aload_n hx hb dL_law_529 rfl (lv_at hl 0 rfl) ?_
  refine lv_iload_n hx hb dL_law_530 rfl (lv_at hl 3 rfl) ?_
  refine lv_iconst (v := (2 : Int32)) hx hb dL_law_531 (by decide) ?_
  refine lv_iadd hx hb dL_law_532 ?_
  obtain ⟨q533, h⟩ := h
  refine va_sld hx hb hX hbl hbA hH.2 q533 dL_law_533 ?_
  have hH := zH_sw hH
  refine zcalliP hH (va_runV (As := [.int (xs ((x3 + (1 : Int32))).toNatClampNeg), .int (xs ((x3 + (2 : Int32))).toNatClampNeg)]) (rest := [.int r520]) hF (kX6_about l G N M (xs ((x3 + (1 : Int32))).toNatClampNeg) (xs ((x3 + (2 : Int32))).toNatClampNeg) _ h) (cwV 2 hts zgL_X6_about rfl rfl rfl ⟨rfl, zdX6_about⟩ ⟨Nat.le_of_ble_eq_true rfl, Nat.le_of_ble_eq_true rfl⟩) (zpreV hSt hH 21 (by decide) rfl (zE_21 _ _ _) (q := (RX6, TX6, 31)) rfl [.int (xs ((x3 + (1 : Int32))).toNatClampNeg), .int (xs ((x3 + (2 : Int32))).toNatClampNeg)]) rfl rfl hl.1 rfl (lv_room (Nat.le_of_ble_eq_true rfl)) dL_law_534 ⟨Nat.le_of_ble_eq_true rfl, Nat.le_of_ble_eq_true rfl⟩) (fun r534 H locs h hH => ?_)
  have hH := zH_ws hH
  refine lv_icmp_eq (tgt := 1107) hx hb dL_law_537 (by decide) (fun q537 => ?_) (fun q537 => ?_)
  · have h := h.1 q537
    exact wL_b1107 hF hSt hr hlocks hX hbl hbA hnew hag x3 M N H locs ls hH (lv_sub hl [0, 1, 2, 3] rfl) h
  · have h := h.2 q537
    refine lv_iconst (v := (0 : Int32)) hx hb dL_law_540 (by decide) ?_
    exact h.elim
def pL_b542 (xs : Nat → Int32) (L : Nat) (ag : Int32 → zM → zM → Prop) (x3 : Int32) (M N : zM) : Prop :=
  vp_in (x3 + (1 : Int32)) L ∧ vp_in (x3 + (2 : Int32)) L ∧ pX5_times (xs ((x3 + (1 : Int32))).toNatClampNeg) (xs ((x3 + (2 : Int32))).toNatClampNeg) (fun r553 => vp_in (x3 + (1 : Int32)) L ∧ vp_in (x3 + (2 : Int32)) L ∧ pX6_times (xs ((x3 + (1 : Int32))).toNatClampNeg) (xs ((x3 + (2 : Int32))).toNatClampNeg) (fun r567 => (r553 = r567 → pL_b1107 ag x3 M N) ∧ (¬ (r553 = r567) → False)))
set_option maxHeartbeats 4000000 in
set_option maxRecDepth 100000 in
theorem wL_b542 (hF : CallFix p m c cL_law 4 s #[Value.ref b] lw_tbl RL) (hSt : zSt G s) (hr : meth.sig.returnType = ret) (hlocks : meth.locks = false) (hX : va_X b L xs s s.heap) (hbl : b < s.heap.size) (hbA : ¬ zAA G b) (hnew : ∀ q, zAA G q → s.heap.size ≤ q) {ag : Int32 → zM → zM → Prop} (hag : ∀ (x3 : Int32) (M N : zM) (H : Heap) (locs : List Loc) (ls : Array Slot), ag x3 M N → zH G true s H locs M N → lv_has ls 4 [(0, .ref b), (1, .ref (G.1 0)), (2, .ref (G.1 21)), (3, .int x3)] → W p l e room_1 s m #[Value.ref b] below meth c H locs 43 4721 (lw_Z below #[Value.ref b] s) (F0 m 18 ls [])) (x3 : Int32) (M N : zM) (H : Heap) (locs : List Loc) (ls : Array Slot) (hH : zH G true s H locs M N) (hl : lv_has ls 4 [(0, .ref b), (1, .ref (G.1 0)), (2, .ref (G.1 21)), (3, .int x3)]) (h : pL_b542 xs L ag x3 M N) : W p l e room_1 s m #[Value.ref b] below meth c H locs 43 4721 (lw_Z below #[Value.ref b] s) (F0 m 542 ls []) := by
  obtain ⟨hx, hb, hml, hown, hts⟩ := id hF
  unfold pL_b542 at h
  refine lv_aload_n hx hb dL_law_542 rfl (lv_at hl 1 rfl) ?_
  refine lv_aload_n hx hb dL_law_543 rfl (lv_at hl 0 rfl) ?_
  refine lv_iload_n hx hb dL_law_544 rfl (lv_at hl 3 rfl) ?_
  refine lv_iconst (v := (1 : Int32)) hx hb dL_law_545 (by decide) ?_
  refine lv_iadd hx hb dL_law_546 ?_
  obtain ⟨q547, h⟩ := h
  refine va_sld hx hb hX hbl hbA hH.2 q547 dL_law_547 ?_
  refine lv_aload_n hx hb dL_law_548 rfl (lv_at hl 0 rfl) ?_
  refine lv_iload_n hx hb dL_law_549 rfl (lv_at hl 3 rfl) ?_
  refine lv_iconst (v := (2 : Int32)) hx hb dL_law_550 (by decide) ?_
  refine lv_iadd hx hb dL_law_551 ?_
  obtain ⟨q552, h⟩ := h
  refine va_sld hx hb hX hbl hbA hH.2 q552 dL_law_552 ?_
  refine zcalliP hH (va_runV (As := [.int (xs ((x3 + (1 : Int32))).toNatClampNeg), .int (xs ((x3 + (2 : Int32))).toNatClampNeg)]) (rest := []) hF (kX5_times l G M N (xs ((x3 + (1 : Int32))).toNatClampNeg) (xs ((x3 + (2 : Int32))).toNatClampNeg) _ h) (cwV 2 hts zgL_X5_times rfl rfl rfl ⟨rfl, zdX5_times⟩ ⟨Nat.le_of_ble_eq_true rfl, Nat.le_of_ble_eq_true rfl⟩) (zpreV hSt hH 0 (by decide) rfl (zE_0 _ _ _) (q := (RX5, TX5, 5)) rfl [.int (xs ((x3 + (1 : Int32))).toNatClampNeg), .int (xs ((x3 + (2 : Int32))).toNatClampNeg)]) rfl rfl hl.1 rfl (lv_room (Nat.le_of_ble_eq_true rfl)) dL_law_553 ⟨Nat.le_of_ble_eq_true rfl, Nat.le_of_ble_eq_true rfl⟩) (fun r553 H locs h hH => ?_)
  refine lv_aload_n hx hb dL_law_556 rfl (lv_at hl 2 rfl) ?_
  refine lv_aload_n hx hb dL_law_557 rfl (lv_at hl 0 rfl) ?_
  refine lv_iload_n hx hb dL_law_558 rfl (lv_at hl 3 rfl) ?_
  refine lv_iconst (v := (1 : Int32)) hx hb dL_law_559 (by decide) ?_
  refine lv_iadd hx hb dL_law_560 ?_
  obtain ⟨q561, h⟩ := h
  refine va_sld hx hb hX hbl hbA hH.2 q561 dL_law_561 ?_
  refine lv_aload_n hx hb dL_law_562 rfl (lv_at hl 0 rfl) ?_
  refine lv_iload_n hx hb dL_law_563 rfl (lv_at hl 3 rfl) ?_
  refine lv_iconst (v := (2 : Int32)) hx hb dL_law_564 (by decide) ?_
  refine lv_iadd hx hb dL_law_565 ?_
  obtain ⟨q566, h⟩ := h
  refine va_sld hx hb hX hbl hbA hH.2 q566 dL_law_566 ?_
  have hH := zH_sw hH
  refine zcalliP hH (va_runV (As := [.int (xs ((x3 + (1 : Int32))).toNatClampNeg), .int (xs ((x3 + (2 : Int32))).toNatClampNeg)]) (rest := [.int r553]) hF (kX6_times l G N M (xs ((x3 + (1 : Int32))).toNatClampNeg) (xs ((x3 + (2 : Int32))).toNatClampNeg) _ h) (cwV 2 hts zgL_X6_times rfl rfl rfl ⟨rfl, zdX6_times⟩ ⟨Nat.le_of_ble_eq_true rfl, Nat.le_of_ble_eq_true rfl⟩) (zpreV hSt hH 21 (by decide) rfl (zE_21 _ _ _) (q := (RX6, TX6, 31)) rfl [.int (xs ((x3 + (1 : Int32))).toNatClampNeg), .int (xs ((x3 + (2 : Int32))).toNatClampNeg)]) rfl rfl hl.1 rfl (lv_room (Nat.le_of_ble_eq_true rfl)) dL_law_567 ⟨Nat.le_of_ble_eq_true rfl, Nat.le_of_ble_eq_true rfl⟩) (fun r567 H locs h hH => ?_)
  have hH := zH_ws hH
  refine lv_icmp_eq (tgt := 1107) hx hb dL_law_570 (by decide) (fun q570 => ?_) (fun q570 => ?_)
  · have h := h.1 q570
    exact wL_b1107 hF hSt hr hlocks hX hbl hbA hnew hag x3 M N H locs ls hH (lv_sub hl [0, 1, 2, 3] rfl) h
  · have h := h.2 q570
    refine lv_iconst (v := (0 : Int32)) hx hb dL_law_573 (by decide) ?_
    exact h.elim
def pL_b575 (xs : Nat → Int32) (L : Nat) (ag : Int32 → zM → zM → Prop) (x3 : Int32) (M N : zM) : Prop :=
  vp_in (x3 + (1 : Int32)) L ∧ pX5_inverse (xs ((x3 + (1 : Int32))).toNatClampNeg) (fun r581 => vp_in (x3 + (1 : Int32)) L ∧ pX6_inverse (xs ((x3 + (1 : Int32))).toNatClampNeg) (fun r590 => (r581 = r590 → pL_b1107 ag x3 M N) ∧ (¬ (r581 = r590) → False)))
set_option maxHeartbeats 4000000 in
set_option maxRecDepth 100000 in
theorem wL_b575 (hF : CallFix p m c cL_law 4 s #[Value.ref b] lw_tbl RL) (hSt : zSt G s) (hr : meth.sig.returnType = ret) (hlocks : meth.locks = false) (hX : va_X b L xs s s.heap) (hbl : b < s.heap.size) (hbA : ¬ zAA G b) (hnew : ∀ q, zAA G q → s.heap.size ≤ q) {ag : Int32 → zM → zM → Prop} (hag : ∀ (x3 : Int32) (M N : zM) (H : Heap) (locs : List Loc) (ls : Array Slot), ag x3 M N → zH G true s H locs M N → lv_has ls 4 [(0, .ref b), (1, .ref (G.1 0)), (2, .ref (G.1 21)), (3, .int x3)] → W p l e room_1 s m #[Value.ref b] below meth c H locs 43 4721 (lw_Z below #[Value.ref b] s) (F0 m 18 ls [])) (x3 : Int32) (M N : zM) (H : Heap) (locs : List Loc) (ls : Array Slot) (hH : zH G true s H locs M N) (hl : lv_has ls 4 [(0, .ref b), (1, .ref (G.1 0)), (2, .ref (G.1 21)), (3, .int x3)]) (h : pL_b575 xs L ag x3 M N) : W p l e room_1 s m #[Value.ref b] below meth c H locs 43 4721 (lw_Z below #[Value.ref b] s) (F0 m 575 ls []) := by
  obtain ⟨hx, hb, hml, hown, hts⟩ := id hF
  unfold pL_b575 at h
  refine lv_aload_n hx hb dL_law_575 rfl (lv_at hl 1 rfl) ?_
  refine lv_aload_n hx hb dL_law_576 rfl (lv_at hl 0 rfl) ?_
  refine lv_iload_n hx hb dL_law_577 rfl (lv_at hl 3 rfl) ?_
  refine lv_iconst (v := (1 : Int32)) hx hb dL_law_578 (by decide) ?_
  refine lv_iadd hx hb dL_law_579 ?_
  obtain ⟨q580, h⟩ := h
  refine va_sld hx hb hX hbl hbA hH.2 q580 dL_law_580 ?_
  refine zcalliP hH (va_runV (As := [.int (xs ((x3 + (1 : Int32))).toNatClampNeg)]) (rest := []) hF (kX5_inverse l G M N (xs ((x3 + (1 : Int32))).toNatClampNeg) _ h) (cwV 1 hts zgL_X5_inverse rfl rfl rfl ⟨rfl, zdX5_inverse⟩ ⟨Nat.le_of_ble_eq_true rfl, Nat.le_of_ble_eq_true rfl⟩) (zpreV hSt hH 0 (by decide) rfl (zE_0 _ _ _) (q := (RX5, TX5, 5)) rfl [.int (xs ((x3 + (1 : Int32))).toNatClampNeg)]) rfl rfl hl.1 rfl (lv_room (Nat.le_of_ble_eq_true rfl)) dL_law_581 ⟨Nat.le_of_ble_eq_true rfl, Nat.le_of_ble_eq_true rfl⟩) (fun r581 H locs h hH => ?_)
  refine lv_aload_n hx hb dL_law_584 rfl (lv_at hl 2 rfl) ?_
  refine lv_aload_n hx hb dL_law_585 rfl (lv_at hl 0 rfl) ?_
  refine lv_iload_n hx hb dL_law_586 rfl (lv_at hl 3 rfl) ?_
  refine lv_iconst (v := (1 : Int32)) hx hb dL_law_587 (by decide) ?_
  refine lv_iadd hx hb dL_law_588 ?_
  obtain ⟨q589, h⟩ := h
  refine va_sld hx hb hX hbl hbA hH.2 q589 dL_law_589 ?_
  have hH := zH_sw hH
  refine zcalliP hH (va_runV (As := [.int (xs ((x3 + (1 : Int32))).toNatClampNeg)]) (rest := [.int r581]) hF (kX6_inverse l G N M (xs ((x3 + (1 : Int32))).toNatClampNeg) _ h) (cwV 1 hts zgL_X6_inverse rfl rfl rfl ⟨rfl, zdX6_inverse⟩ ⟨Nat.le_of_ble_eq_true rfl, Nat.le_of_ble_eq_true rfl⟩) (zpreV hSt hH 21 (by decide) rfl (zE_21 _ _ _) (q := (RX6, TX6, 31)) rfl [.int (xs ((x3 + (1 : Int32))).toNatClampNeg)]) rfl rfl hl.1 rfl (lv_room (Nat.le_of_ble_eq_true rfl)) dL_law_590 ⟨Nat.le_of_ble_eq_true rfl, Nat.le_of_ble_eq_true rfl⟩) (fun r590 H locs h hH => ?_)
  have hH := zH_ws hH
  refine lv_icmp_eq (tgt := 1107) hx hb dL_law_593 (by decide) (fun q593 => ?_) (fun q593 => ?_)
  · have h := h.1 q593
    exact wL_b1107 hF hSt hr hlocks hX hbl hbA hnew hag x3 M N H locs ls hH (lv_sub hl [0, 1, 2, 3] rfl) h
  · have h := h.2 q593
    refine lv_iconst (v := (0 : Int32)) hx hb dL_law_596 (by decide) ?_
    exact h.elim
def pL_b598 (xs : Nat → Int32) (L : Nat) (ag : Int32 → zM → zM → Prop) (x3 : Int32) (M N : zM) : Prop :=
  vp_in (x3 + (1 : Int32)) L ∧ pX5_flow M (xs ((x3 + (1 : Int32))).toNatClampNeg) (fun r604 M604 => vp_in (x3 + (1 : Int32)) L ∧ pX6_flow N (xs ((x3 + (1 : Int32))).toNatClampNeg) (fun r613 N613 => (r604 = r613 → pL_b1107 ag x3 M604 N613) ∧ (¬ (r604 = r613) → False)))
set_option maxHeartbeats 4000000 in
set_option maxRecDepth 100000 in
theorem wL_b598 (hF : CallFix p m c cL_law 4 s #[Value.ref b] lw_tbl RL) (hSt : zSt G s) (hr : meth.sig.returnType = ret) (hlocks : meth.locks = false) (hX : va_X b L xs s s.heap) (hbl : b < s.heap.size) (hbA : ¬ zAA G b) (hnew : ∀ q, zAA G q → s.heap.size ≤ q) {ag : Int32 → zM → zM → Prop} (hag : ∀ (x3 : Int32) (M N : zM) (H : Heap) (locs : List Loc) (ls : Array Slot), ag x3 M N → zH G true s H locs M N → lv_has ls 4 [(0, .ref b), (1, .ref (G.1 0)), (2, .ref (G.1 21)), (3, .int x3)] → W p l e room_1 s m #[Value.ref b] below meth c H locs 43 4721 (lw_Z below #[Value.ref b] s) (F0 m 18 ls [])) (x3 : Int32) (M N : zM) (H : Heap) (locs : List Loc) (ls : Array Slot) (hH : zH G true s H locs M N) (hl : lv_has ls 4 [(0, .ref b), (1, .ref (G.1 0)), (2, .ref (G.1 21)), (3, .int x3)]) (h : pL_b598 xs L ag x3 M N) : W p l e room_1 s m #[Value.ref b] below meth c H locs 43 4721 (lw_Z below #[Value.ref b] s) (F0 m 598 ls []) := by
  obtain ⟨hx, hb, hml, hown, hts⟩ := id hF
  unfold pL_b598 at h
  refine lv_aload_n hx hb dL_law_598 rfl (lv_at hl 1 rfl) ?_
  refine lv_aload_n hx hb dL_law_599 rfl (lv_at hl 0 rfl) ?_
  refine lv_iload_n hx hb dL_law_600 rfl (lv_at hl 3 rfl) ?_
  refine lv_iconst (v := (1 : Int32)) hx hb dL_law_601 (by decide) ?_
  refine lv_iadd hx hb dL_law_602 ?_
  obtain ⟨q603, h⟩ := h
  refine va_sld hx hb hX hbl hbA hH.2 q603 dL_law_603 ?_
  refine zcalli hH (va_runV (As := [.int (xs ((x3 + (1 : Int32))).toNatClampNeg)]) (rest := []) hF (kX5_flow l G M N (xs ((x3 + (1 : Int32))).toNatClampNeg) _ h) (cwV 1 hts zgL_X5_flow rfl rfl rfl ⟨rfl, zdX5_flow⟩ ⟨Nat.le_of_ble_eq_true rfl, Nat.le_of_ble_eq_true rfl⟩) (zpreV hSt hH 0 (by decide) rfl (zE_0 _ _ _) (q := (RX5, TX5, 5)) rfl [.int (xs ((x3 + (1 : Int32))).toNatClampNeg)]) rfl rfl hl.1 rfl (lv_room (Nat.le_of_ble_eq_true rfl)) dL_law_604 ⟨Nat.le_of_ble_eq_true rfl, Nat.le_of_ble_eq_true rfl⟩) (fun r604 M604 H locs h hH => ?_)
  refine lv_aload_n hx hb dL_law_607 rfl (lv_at hl 2 rfl) ?_
  refine lv_aload_n hx hb dL_law_608 rfl (lv_at hl 0 rfl) ?_
  refine lv_iload_n hx hb dL_law_609 rfl (lv_at hl 3 rfl) ?_
  refine lv_iconst (v := (1 : Int32)) hx hb dL_law_610 (by decide) ?_
  refine lv_iadd hx hb dL_law_611 ?_
  obtain ⟨q612, h⟩ := h
  refine va_sld hx hb hX hbl hbA hH.2 q612 dL_law_612 ?_
  have hH := zH_sw hH
  refine zcalli hH (va_runV (As := [.int (xs ((x3 + (1 : Int32))).toNatClampNeg)]) (rest := [.int r604]) hF (kX6_flow l G N M604 (xs ((x3 + (1 : Int32))).toNatClampNeg) _ h) (cwV 1 hts zgL_X6_flow rfl rfl rfl ⟨rfl, zdX6_flow⟩ ⟨Nat.le_of_ble_eq_true rfl, Nat.le_of_ble_eq_true rfl⟩) (zpreV hSt hH 21 (by decide) rfl (zE_21 _ _ _) (q := (RX6, TX6, 31)) rfl [.int (xs ((x3 + (1 : Int32))).toNatClampNeg)]) rfl rfl hl.1 rfl (lv_room (Nat.le_of_ble_eq_true rfl)) dL_law_613 ⟨Nat.le_of_ble_eq_true rfl, Nat.le_of_ble_eq_true rfl⟩) (fun r613 N613 H locs h hH => ?_)
  have hH := zH_ws hH
  refine lv_icmp_eq (tgt := 1107) hx hb dL_law_616 (by decide) (fun q616 => ?_) (fun q616 => ?_)
  · have h := h.1 q616
    exact wL_b1107 hF hSt hr hlocks hX hbl hbA hnew hag x3 M604 N613 H locs ls hH (lv_sub hl [0, 1, 2, 3] rfl) h
  · have h := h.2 q616
    refine lv_iconst (v := (0 : Int32)) hx hb dL_law_619 (by decide) ?_
    exact h.elim
def pL_b621 (xs : Nat → Int32) (L : Nat) (ag : Int32 → zM → zM → Prop) (x3 : Int32) (M N : zM) : Prop :=
  vp_in (x3 + (1 : Int32)) L ∧ vp_in (x3 + (2 : Int32)) L ∧ pX5_cut M (xs ((x3 + (1 : Int32))).toNatClampNeg) (xs ((x3 + (2 : Int32))).toNatClampNeg) (fun r632 M632 => vp_in (x3 + (1 : Int32)) L ∧ vp_in (x3 + (2 : Int32)) L ∧ pX6_cut N (xs ((x3 + (1 : Int32))).toNatClampNeg) (xs ((x3 + (2 : Int32))).toNatClampNeg) (fun r646 N646 => (r632 = r646 → pL_b1107 ag x3 M632 N646) ∧ (¬ (r632 = r646) → False)))
set_option maxHeartbeats 4000000 in
set_option maxRecDepth 100000 in
theorem wL_b621 (hF : CallFix p m c cL_law 4 s #[Value.ref b] lw_tbl RL) (hSt : zSt G s) (hr : meth.sig.returnType = ret) (hlocks : meth.locks = false) (hX : va_X b L xs s s.heap) (hbl : b < s.heap.size) (hbA : ¬ zAA G b) (hnew : ∀ q, zAA G q → s.heap.size ≤ q) {ag : Int32 → zM → zM → Prop} (hag : ∀ (x3 : Int32) (M N : zM) (H : Heap) (locs : List Loc) (ls : Array Slot), ag x3 M N → zH G true s H locs M N → lv_has ls 4 [(0, .ref b), (1, .ref (G.1 0)), (2, .ref (G.1 21)), (3, .int x3)] → W p l e room_1 s m #[Value.ref b] below meth c H locs 43 4721 (lw_Z below #[Value.ref b] s) (F0 m 18 ls [])) (x3 : Int32) (M N : zM) (H : Heap) (locs : List Loc) (ls : Array Slot) (hH : zH G true s H locs M N) (hl : lv_has ls 4 [(0, .ref b), (1, .ref (G.1 0)), (2, .ref (G.1 21)), (3, .int x3)]) (h : pL_b621 xs L ag x3 M N) : W p l e room_1 s m #[Value.ref b] below meth c H locs 43 4721 (lw_Z below #[Value.ref b] s) (F0 m 621 ls []) := by
  obtain ⟨hx, hb, hml, hown, hts⟩ := id hF
  unfold pL_b621 at h
  refine lv_aload_n hx hb dL_law_621 rfl (lv_at hl 1 rfl) ?_
  refine lv_aload_n hx hb dL_law_622 rfl (lv_at hl 0 rfl) ?_
  refine lv_iload_n hx hb dL_law_623 rfl (lv_at hl 3 rfl) ?_
  refine lv_iconst (v := (1 : Int32)) hx hb dL_law_624 (by decide) ?_
  refine lv_iadd hx hb dL_law_625 ?_
  obtain ⟨q626, h⟩ := h
  refine va_sld hx hb hX hbl hbA hH.2 q626 dL_law_626 ?_
  refine lv_aload_n hx hb dL_law_627 rfl (lv_at hl 0 rfl) ?_
  refine lv_iload_n hx hb dL_law_628 rfl (lv_at hl 3 rfl) ?_
  refine lv_iconst (v := (2 : Int32)) hx hb dL_law_629 (by decide) ?_
  refine lv_iadd hx hb dL_law_630 ?_
  obtain ⟨q631, h⟩ := h
  refine va_sld hx hb hX hbl hbA hH.2 q631 dL_law_631 ?_
  refine zcalli hH (va_runV (As := [.int (xs ((x3 + (1 : Int32))).toNatClampNeg), .int (xs ((x3 + (2 : Int32))).toNatClampNeg)]) (rest := []) hF (kX5_cut l G M N (xs ((x3 + (1 : Int32))).toNatClampNeg) (xs ((x3 + (2 : Int32))).toNatClampNeg) _ h) (cwV 2 hts zgL_X5_cut rfl rfl rfl ⟨rfl, zdX5_cut⟩ ⟨Nat.le_of_ble_eq_true rfl, Nat.le_of_ble_eq_true rfl⟩) (zpreV hSt hH 0 (by decide) rfl (zE_0 _ _ _) (q := (RX5, TX5, 5)) rfl [.int (xs ((x3 + (1 : Int32))).toNatClampNeg), .int (xs ((x3 + (2 : Int32))).toNatClampNeg)]) rfl rfl hl.1 rfl (lv_room (Nat.le_of_ble_eq_true rfl)) dL_law_632 ⟨Nat.le_of_ble_eq_true rfl, Nat.le_of_ble_eq_true rfl⟩) (fun r632 M632 H locs h hH => ?_)
  refine lv_aload_n hx hb dL_law_635 rfl (lv_at hl 2 rfl) ?_
  refine lv_aload_n hx hb dL_law_636 rfl (lv_at hl 0 rfl) ?_
  refine lv_iload_n hx hb dL_law_637 rfl (lv_at hl 3 rfl) ?_
  refine lv_iconst (v := (1 : Int32)) hx hb dL_law_638 (by decide) ?_
  refine lv_iadd hx hb dL_law_639 ?_
  obtain ⟨q640, h⟩ := h
  refine va_sld hx hb hX hbl hbA hH.2 q640 dL_law_640 ?_
  refine lv_aload_n hx hb dL_law_641 rfl (lv_at hl 0 rfl) ?_
  refine lv_iload_n hx hb dL_law_642 rfl (lv_at hl 3 rfl) ?_
  refine lv_iconst (v := (2 : Int32)) hx hb dL_law_643 (by decide) ?_
  refine lv_iadd hx hb dL_law_644 ?_
  obtain ⟨q645, h⟩ := h
  refine va_sld hx hb hX hbl hbA hH.2 q645 dL_law_645 ?_
  have hH := zH_sw hH
  refine zcalli hH (va_runV (As := [.int (xs ((x3 + (1 : Int32))).toNatClampNeg), .int (xs ((x3 + (2 : Int32))).toNatClampNeg)]) (rest := [.int r632]) hF (kX6_cut l G N M632 (xs ((x3 + (1 : Int32))).toNatClampNeg) (xs ((x3 + (2 : Int32))).toNatClampNeg) _ h) (cwV 2 hts zgL_X6_cut rfl rfl rfl ⟨rfl, zdX6_cut⟩ ⟨Nat.le_of_ble_eq_true rfl, Nat.le_of_ble_eq_true rfl⟩) (zpreV hSt hH 21 (by decide) rfl (zE_21 _ _ _) (q := (RX6, TX6, 31)) rfl [.int (xs ((x3 + (1 : Int32))).toNatClampNeg), .int (xs ((x3 + (2 : Int32))).toNatClampNeg)]) rfl rfl hl.1 rfl (lv_room (Nat.le_of_ble_eq_true rfl)) dL_law_646 ⟨Nat.le_of_ble_eq_true rfl, Nat.le_of_ble_eq_true rfl⟩) (fun r646 N646 H locs h hH => ?_)
  have hH := zH_ws hH
  refine lv_icmp_eq (tgt := 1107) hx hb dL_law_649 (by decide) (fun q649 => ?_) (fun q649 => ?_)
  · have h := h.1 q649
    exact wL_b1107 hF hSt hr hlocks hX hbl hbA hnew hag x3 M632 N646 H locs ls hH (lv_sub hl [0, 1, 2, 3] rfl) h
  · have h := h.2 q649
    refine lv_iconst (v := (0 : Int32)) hx hb dL_law_652 (by decide) ?_
    exact h.elim
def pL_b654 (xs : Nat → Int32) (L : Nat) (ag : Int32 → zM → zM → Prop) (x3 : Int32) (M N : zM) : Prop :=
  pX5_rate M  (fun r655 M655 => pX6_rate N  (fun r659 N659 => (r655 = r659 → pL_b1107 ag x3 M655 N659) ∧ (¬ (r655 = r659) → False)))
set_option maxHeartbeats 4000000 in
set_option maxRecDepth 100000 in
theorem wL_b654 (hF : CallFix p m c cL_law 4 s #[Value.ref b] lw_tbl RL) (hSt : zSt G s) (hr : meth.sig.returnType = ret) (hlocks : meth.locks = false) (hX : va_X b L xs s s.heap) (hbl : b < s.heap.size) (hbA : ¬ zAA G b) (hnew : ∀ q, zAA G q → s.heap.size ≤ q) {ag : Int32 → zM → zM → Prop} (hag : ∀ (x3 : Int32) (M N : zM) (H : Heap) (locs : List Loc) (ls : Array Slot), ag x3 M N → zH G true s H locs M N → lv_has ls 4 [(0, .ref b), (1, .ref (G.1 0)), (2, .ref (G.1 21)), (3, .int x3)] → W p l e room_1 s m #[Value.ref b] below meth c H locs 43 4721 (lw_Z below #[Value.ref b] s) (F0 m 18 ls [])) (x3 : Int32) (M N : zM) (H : Heap) (locs : List Loc) (ls : Array Slot) (hH : zH G true s H locs M N) (hl : lv_has ls 4 [(0, .ref b), (1, .ref (G.1 0)), (2, .ref (G.1 21)), (3, .int x3)]) (h : pL_b654 xs L ag x3 M N) : W p l e room_1 s m #[Value.ref b] below meth c H locs 43 4721 (lw_Z below #[Value.ref b] s) (F0 m 654 ls []) := by
  obtain ⟨hx, hb, hml, hown, hts⟩ := id hF
  unfold pL_b654 at h
  refine lv_aload_n hx hb dL_law_654 rfl (lv_at hl 1 rfl) ?_
  refine zcalli hH (va_runV (As := []) (rest := []) hF (kX5_rate l G M N _ h) (cwV 0 hts zgL_X5_rate rfl rfl rfl ⟨rfl, zdX5_rate⟩ ⟨Nat.le_of_ble_eq_true rfl, Nat.le_of_ble_eq_true rfl⟩) (zpreV hSt hH 0 (by decide) rfl (zE_0 _ _ _) (q := (RX5, TX5, 5)) rfl []) rfl rfl hl.1 rfl (lv_room (Nat.le_of_ble_eq_true rfl)) dL_law_655 ⟨Nat.le_of_ble_eq_true rfl, Nat.le_of_ble_eq_true rfl⟩) (fun r655 M655 H locs h hH => ?_)
  refine lv_aload_n hx hb dL_law_658 rfl (lv_at hl 2 rfl) ?_
  have hH := zH_sw hH
  refine zcalli hH (va_runV (As := []) (rest := [.int r655]) hF (kX6_rate l G N M655 _ h) (cwV 0 hts zgL_X6_rate rfl rfl rfl ⟨rfl, zdX6_rate⟩ ⟨Nat.le_of_ble_eq_true rfl, Nat.le_of_ble_eq_true rfl⟩) (zpreV hSt hH 21 (by decide) rfl (zE_21 _ _ _) (q := (RX6, TX6, 31)) rfl []) rfl rfl hl.1 rfl (lv_room (Nat.le_of_ble_eq_true rfl)) dL_law_659 ⟨Nat.le_of_ble_eq_true rfl, Nat.le_of_ble_eq_true rfl⟩) (fun r659 N659 H locs h hH => ?_)
  have hH := zH_ws hH
  refine lv_icmp_eq (tgt := 1107) hx hb dL_law_662 (by decide) (fun q662 => ?_) (fun q662 => ?_)
  · have h := h.1 q662
    exact wL_b1107 hF hSt hr hlocks hX hbl hbA hnew hag x3 M655 N659 H locs ls hH (lv_sub hl [0, 1, 2, 3] rfl) h
  · have h := h.2 q662
    refine lv_iconst (v := (0 : Int32)) hx hb dL_law_665 (by decide) ?_
    exact h.elim
def pL_b667 (xs : Nat → Int32) (L : Nat) (ag : Int32 → zM → zM → Prop) (x3 : Int32) (M N : zM) : Prop :=
  vp_in (x3 + (1 : Int32)) L ∧ vp_in (x3 + (2 : Int32)) L ∧ pX5_vector M (xs ((x3 + (1 : Int32))).toNatClampNeg) (xs ((x3 + (2 : Int32))).toNatClampNeg) (fun r678 M678 => vp_in (x3 + (1 : Int32)) L ∧ vp_in (x3 + (2 : Int32)) L ∧ pX6_vector N (xs ((x3 + (1 : Int32))).toNatClampNeg) (xs ((x3 + (2 : Int32))).toNatClampNeg) (fun r692 N692 => (r678 = r692 → pL_b1107 ag x3 M678 N692) ∧ (¬ (r678 = r692) → False)))
set_option maxHeartbeats 4000000 in
set_option maxRecDepth 100000 in
theorem wL_b667 (hF : CallFix p m c cL_law 4 s #[Value.ref b] lw_tbl RL) (hSt : zSt G s) (hr : meth.sig.returnType = ret) (hlocks : meth.locks = false) (hX : va_X b L xs s s.heap) (hbl : b < s.heap.size) (hbA : ¬ zAA G b) (hnew : ∀ q, zAA G q → s.heap.size ≤ q) {ag : Int32 → zM → zM → Prop} (hag : ∀ (x3 : Int32) (M N : zM) (H : Heap) (locs : List Loc) (ls : Array Slot), ag x3 M N → zH G true s H locs M N → lv_has ls 4 [(0, .ref b), (1, .ref (G.1 0)), (2, .ref (G.1 21)), (3, .int x3)] → W p l e room_1 s m #[Value.ref b] below meth c H locs 43 4721 (lw_Z below #[Value.ref b] s) (F0 m 18 ls [])) (x3 : Int32) (M N : zM) (H : Heap) (locs : List Loc) (ls : Array Slot) (hH : zH G true s H locs M N) (hl : lv_has ls 4 [(0, .ref b), (1, .ref (G.1 0)), (2, .ref (G.1 21)), (3, .int x3)]) (h : pL_b667 xs L ag x3 M N) : W p l e room_1 s m #[Value.ref b] below meth c H locs 43 4721 (lw_Z below #[Value.ref b] s) (F0 m 667 ls []) := by
  obtain ⟨hx, hb, hml, hown, hts⟩ := id hF
  unfold pL_b667 at h
  refine lv_aload_n hx hb dL_law_667 rfl (lv_at hl 1 rfl) ?_
  refine lv_aload_n hx hb dL_law_668 rfl (lv_at hl 0 rfl) ?_
  refine lv_iload_n hx hb dL_law_669 rfl (lv_at hl 3 rfl) ?_
  refine lv_iconst (v := (1 : Int32)) hx hb dL_law_670 (by decide) ?_
  refine lv_iadd hx hb dL_law_671 ?_
  obtain ⟨q672, h⟩ := h
  refine va_sld hx hb hX hbl hbA hH.2 q672 dL_law_672 ?_
  refine lv_aload_n hx hb dL_law_673 rfl (lv_at hl 0 rfl) ?_
  refine lv_iload_n hx hb dL_law_674 rfl (lv_at hl 3 rfl) ?_
  refine lv_iconst (v := (2 : Int32)) hx hb dL_law_675 (by decide) ?_
  refine lv_iadd hx hb dL_law_676 ?_
  obtain ⟨q677, h⟩ := h
  refine va_sld hx hb hX hbl hbA hH.2 q677 dL_law_677 ?_
  refine zcalli hH (va_runV (As := [.int (xs ((x3 + (1 : Int32))).toNatClampNeg), .int (xs ((x3 + (2 : Int32))).toNatClampNeg)]) (rest := []) hF (kX5_vector l G M N (xs ((x3 + (1 : Int32))).toNatClampNeg) (xs ((x3 + (2 : Int32))).toNatClampNeg) _ h) (cwV 2 hts zgL_X5_vector rfl rfl rfl ⟨rfl, zdX5_vector⟩ ⟨Nat.le_of_ble_eq_true rfl, Nat.le_of_ble_eq_true rfl⟩) (zpreV hSt hH 0 (by decide) rfl (zE_0 _ _ _) (q := (RX5, TX5, 5)) rfl [.int (xs ((x3 + (1 : Int32))).toNatClampNeg), .int (xs ((x3 + (2 : Int32))).toNatClampNeg)]) rfl rfl hl.1 rfl (lv_room (Nat.le_of_ble_eq_true rfl)) dL_law_678 ⟨Nat.le_of_ble_eq_true rfl, Nat.le_of_ble_eq_true rfl⟩) (fun r678 M678 H locs h hH => ?_)
  refine lv_aload_n hx hb dL_law_681 rfl (lv_at hl 2 rfl) ?_
  refine lv_aload_n hx hb dL_law_682 rfl (lv_at hl 0 rfl) ?_
  refine lv_iload_n hx hb dL_law_683 rfl (lv_at hl 3 rfl) ?_
  refine lv_iconst (v := (1 : Int32)) hx hb dL_law_684 (by decide) ?_
  refine lv_iadd hx hb dL_law_685 ?_
  obtain ⟨q686, h⟩ := h
  refine va_sld hx hb hX hbl hbA hH.2 q686 dL_law_686 ?_
  refine lv_aload_n hx hb dL_law_687 rfl (lv_at hl 0 rfl) ?_
  refine lv_iload_n hx hb dL_law_688 rfl (lv_at hl 3 rfl) ?_
  refine lv_iconst (v := (2 : Int32)) hx hb dL_law_689 (by decide) ?_
  refine lv_iadd hx hb dL_law_690 ?_
  obtain ⟨q691, h⟩ := h
  refine va_sld hx hb hX hbl hbA hH.2 q691 dL_law_691 ?_
  have hH := zH_sw hH
  refine zcalli hH (va_runV (As := [.int (xs ((x3 + (1 : Int32))).toNatClampNeg), .int (xs ((x3 + (2 : Int32))).toNatClampNeg)]) (rest := [.int r678]) hF (kX6_vector l G N M678 (xs ((x3 + (1 : Int32))).toNatClampNeg) (xs ((x3 + (2 : Int32))).toNatClampNeg) _ h) (cwV 2 hts zgL_X6_vector rfl rfl rfl ⟨rfl, zdX6_vector⟩ ⟨Nat.le_of_ble_eq_true rfl, Nat.le_of_ble_eq_true rfl⟩) (zpreV hSt hH 21 (by decide) rfl (zE_21 _ _ _) (q := (RX6, TX6, 31)) rfl [.int (xs ((x3 + (1 : Int32))).toNatClampNeg), .int (xs ((x3 + (2 : Int32))).toNatClampNeg)]) rfl rfl hl.1 rfl (lv_room (Nat.le_of_ble_eq_true rfl)) dL_law_692 ⟨Nat.le_of_ble_eq_true rfl, Nat.le_of_ble_eq_true rfl⟩) (fun r692 N692 H locs h hH => ?_)
  have hH := zH_ws hH
  refine lv_icmp_eq (tgt := 1107) hx hb dL_law_695 (by decide) (fun q695 => ?_) (fun q695 => ?_)
  · have h := h.1 q695
    exact wL_b1107 hF hSt hr hlocks hX hbl hbA hnew hag x3 M678 N692 H locs ls hH (lv_sub hl [0, 1, 2, 3] rfl) h
  · have h := h.2 q695
    refine lv_iconst (v := (0 : Int32)) hx hb dL_law_698 (by decide) ?_
    exact h.elim
def pL_b700 (xs : Nat → Int32) (L : Nat) (ag : Int32 → zM → zM → Prop) (x3 : Int32) (M N : zM) : Prop :=
  vp_in (x3 + (1 : Int32)) L ∧ pX5_carries M (xs ((x3 + (1 : Int32))).toNatClampNeg) (fun r706 M706 => vp_in (x3 + (1 : Int32)) L ∧ pX6_carries N (xs ((x3 + (1 : Int32))).toNatClampNeg) (fun r715 N715 => ((lg_cmp r706 r715) = 0 → pL_b1107 ag x3 M706 N715) ∧ (¬ ((lg_cmp r706 r715) = 0) → False)))
set_option maxHeartbeats 4000000 in
set_option maxRecDepth 100000 in
theorem wL_b700 (hF : CallFix p m c cL_law 4 s #[Value.ref b] lw_tbl RL) (hSt : zSt G s) (hr : meth.sig.returnType = ret) (hlocks : meth.locks = false) (hX : va_X b L xs s s.heap) (hbl : b < s.heap.size) (hbA : ¬ zAA G b) (hnew : ∀ q, zAA G q → s.heap.size ≤ q) {ag : Int32 → zM → zM → Prop} (hag : ∀ (x3 : Int32) (M N : zM) (H : Heap) (locs : List Loc) (ls : Array Slot), ag x3 M N → zH G true s H locs M N → lv_has ls 4 [(0, .ref b), (1, .ref (G.1 0)), (2, .ref (G.1 21)), (3, .int x3)] → W p l e room_1 s m #[Value.ref b] below meth c H locs 43 4721 (lw_Z below #[Value.ref b] s) (F0 m 18 ls [])) (x3 : Int32) (M N : zM) (H : Heap) (locs : List Loc) (ls : Array Slot) (hH : zH G true s H locs M N) (hl : lv_has ls 4 [(0, .ref b), (1, .ref (G.1 0)), (2, .ref (G.1 21)), (3, .int x3)]) (h : pL_b700 xs L ag x3 M N) : W p l e room_1 s m #[Value.ref b] below meth c H locs 43 4721 (lw_Z below #[Value.ref b] s) (F0 m 700 ls []) := by
  obtain ⟨hx, hb, hml, hown, hts⟩ := id hF
  unfold pL_b700 at h
  refine lv_aload_n hx hb dL_law_700 rfl (lv_at hl 1 rfl) ?_
  refine lv_aload_n hx hb dL_law_701 rfl (lv_at hl 0 rfl) ?_
  refine lv_iload_n hx hb dL_law_702 rfl (lv_at hl 3 rfl) ?_
  refine lv_iconst (v := (1 : Int32)) hx hb dL_law_703 (by decide) ?_
  refine lv_iadd hx hb dL_law_704 ?_
  obtain ⟨q705, h⟩ := h
  refine va_sld hx hb hX hbl hbA hH.2 q705 dL_law_705 ?_
  refine zcalll hH (va_runV (As := [.int (xs ((x3 + (1 : Int32))).toNatClampNeg)]) (rest := []) hF (kX5_carries l G M N (xs ((x3 + (1 : Int32))).toNatClampNeg) _ h) (cwV 1 hts zgL_X5_carries rfl rfl rfl ⟨rfl, zdX5_carries⟩ ⟨Nat.le_of_ble_eq_true rfl, Nat.le_of_ble_eq_true rfl⟩) (zpreV hSt hH 0 (by decide) rfl (zE_0 _ _ _) (q := (RX5, TX5, 5)) rfl [.int (xs ((x3 + (1 : Int32))).toNatClampNeg)]) rfl rfl hl.1 rfl (lv_room (Nat.le_of_ble_eq_true rfl)) dL_law_706 ⟨Nat.le_of_ble_eq_true rfl, Nat.le_of_ble_eq_true rfl⟩) (fun r706 M706 H locs h hH => ?_)
  refine lv_aload_n hx hb dL_law_709 rfl (lv_at hl 2 rfl) ?_
  refine lv_aload_n hx hb dL_law_710 rfl (lv_at hl 0 rfl) ?_
  refine lv_iload_n hx hb dL_law_711 rfl (lv_at hl 3 rfl) ?_
  refine lv_iconst (v := (1 : Int32)) hx hb dL_law_712 (by decide) ?_
  refine lv_iadd hx hb dL_law_713 ?_
  obtain ⟨q714, h⟩ := h
  refine va_sld hx hb hX hbl hbA hH.2 q714 dL_law_714 ?_
  have hH := zH_sw hH
  refine zcalll hH (va_runV (As := [.int (xs ((x3 + (1 : Int32))).toNatClampNeg)]) (rest := [.long r706]) hF (kX6_carries l G N M706 (xs ((x3 + (1 : Int32))).toNatClampNeg) _ h) (cwV 1 hts zgL_X6_carries rfl rfl rfl ⟨rfl, zdX6_carries⟩ ⟨Nat.le_of_ble_eq_true rfl, Nat.le_of_ble_eq_true rfl⟩) (zpreV hSt hH 21 (by decide) rfl (zE_21 _ _ _) (q := (RX6, TX6, 31)) rfl [.int (xs ((x3 + (1 : Int32))).toNatClampNeg)]) rfl rfl hl.1 rfl (lv_room (Nat.le_of_ble_eq_true rfl)) dL_law_715 ⟨Nat.le_of_ble_eq_true rfl, Nat.le_of_ble_eq_true rfl⟩) (fun r715 N715 H locs h hH => ?_)
  have hH := zH_ws hH
  refine W.lcmp hx hb dL_law_718 ?_
  refine lv_if_eq (tgt := 1107) hx hb dL_law_719 (by decide) (fun q719 => ?_) (fun q719 => ?_)
  · have h := h.1 q719
    exact wL_b1107 hF hSt hr hlocks hX hbl hbA hnew hag x3 M706 N715 H locs ls hH (lv_sub hl [0, 1, 2, 3] rfl) h
  · have h := h.2 q719
    refine lv_iconst (v := (0 : Int32)) hx hb dL_law_722 (by decide) ?_
    exact h.elim
def pL_b724 (xs : Nat → Int32) (L : Nat) (ag : Int32 → zM → zM → Prop) (x3 : Int32) (M N : zM) : Prop :=
  vp_in (x3 + (1 : Int32)) L ∧ pX5_rank M (xs ((x3 + (1 : Int32))).toNatClampNeg) (fun r730 M730 => vp_in (x3 + (1 : Int32)) L ∧ pX6_rank N (xs ((x3 + (1 : Int32))).toNatClampNeg) (fun r739 N739 => (r730 = r739 → pL_b1107 ag x3 M730 N739) ∧ (¬ (r730 = r739) → False)))
set_option maxHeartbeats 4000000 in
set_option maxRecDepth 100000 in
theorem wL_b724 (hF : CallFix p m c cL_law 4 s #[Value.ref b] lw_tbl RL) (hSt : zSt G s) (hr : meth.sig.returnType = ret) (hlocks : meth.locks = false) (hX : va_X b L xs s s.heap) (hbl : b < s.heap.size) (hbA : ¬ zAA G b) (hnew : ∀ q, zAA G q → s.heap.size ≤ q) {ag : Int32 → zM → zM → Prop} (hag : ∀ (x3 : Int32) (M N : zM) (H : Heap) (locs : List Loc) (ls : Array Slot), ag x3 M N → zH G true s H locs M N → lv_has ls 4 [(0, .ref b), (1, .ref (G.1 0)), (2, .ref (G.1 21)), (3, .int x3)] → W p l e room_1 s m #[Value.ref b] below meth c H locs 43 4721 (lw_Z below #[Value.ref b] s) (F0 m 18 ls [])) (x3 : Int32) (M N : zM) (H : Heap) (locs : List Loc) (ls : Array Slot) (hH : zH G true s H locs M N) (hl : lv_has ls 4 [(0, .ref b), (1, .ref (G.1 0)), (2, .ref (G.1 21)), (3, .int x3)]) (h : pL_b724 xs L ag x3 M N) : W p l e room_1 s m #[Value.ref b] below meth c H locs 43 4721 (lw_Z below #[Value.ref b] s) (F0 m 724 ls []) := by
  obtain ⟨hx, hb, hml, hown, hts⟩ := id hF
  unfold pL_b724 at h
  refine lv_aload_n hx hb dL_law_724 rfl (lv_at hl 1 rfl) ?_
  refine lv_aload_n hx hb dL_law_725 rfl (lv_at hl 0 rfl) ?_
  refine lv_iload_n hx hb dL_law_726 rfl (lv_at hl 3 rfl) ?_
  refine lv_iconst (v := (1 : Int32)) hx hb dL_law_727 (by decide) ?_
  refine lv_iadd hx hb dL_law_728 ?_
  obtain ⟨q729, h⟩ := h
  refine va_sld hx hb hX hbl hbA hH.2 q729 dL_law_729 ?_
  refine zcalli hH (va_runV (As := [.int (xs ((x3 + (1 : Int32))).toNatClampNeg)]) (rest := []) hF (kX5_rank l G M N (xs ((x3 + (1 : Int32))).toNatClampNeg) _ h) (cwV 1 hts zgL_X5_rank rfl rfl rfl ⟨rfl, zdX5_rank⟩ ⟨Nat.le_of_ble_eq_true rfl, Nat.le_of_ble_eq_true rfl⟩) (zpreV hSt hH 0 (by decide) rfl (zE_0 _ _ _) (q := (RX5, TX5, 5)) rfl [.int (xs ((x3 + (1 : Int32))).toNatClampNeg)]) rfl rfl hl.1 rfl (lv_room (Nat.le_of_ble_eq_true rfl)) dL_law_730 ⟨Nat.le_of_ble_eq_true rfl, Nat.le_of_ble_eq_true rfl⟩) (fun r730 M730 H locs h hH => ?_)
  refine lv_aload_n hx hb dL_law_733 rfl (lv_at hl 2 rfl) ?_
  refine lv_aload_n hx hb dL_law_734 rfl (lv_at hl 0 rfl) ?_
  refine lv_iload_n hx hb dL_law_735 rfl (lv_at hl 3 rfl) ?_
  refine lv_iconst (v := (1 : Int32)) hx hb dL_law_736 (by decide) ?_
  refine lv_iadd hx hb dL_law_737 ?_
  obtain ⟨q738, h⟩ := h
  refine va_sld hx hb hX hbl hbA hH.2 q738 dL_law_738 ?_
  have hH := zH_sw hH
  refine zcalli hH (va_runV (As := [.int (xs ((x3 + (1 : Int32))).toNatClampNeg)]) (rest := [.int r730]) hF (kX6_rank l G N M730 (xs ((x3 + (1 : Int32))).toNatClampNeg) _ h) (cwV 1 hts zgL_X6_rank rfl rfl rfl ⟨rfl, zdX6_rank⟩ ⟨Nat.le_of_ble_eq_true rfl, Nat.le_of_ble_eq_true rfl⟩) (zpreV hSt hH 21 (by decide) rfl (zE_21 _ _ _) (q := (RX6, TX6, 31)) rfl [.int (xs ((x3 + (1 : Int32))).toNatClampNeg)]) rfl rfl hl.1 rfl (lv_room (Nat.le_of_ble_eq_true rfl)) dL_law_739 ⟨Nat.le_of_ble_eq_true rfl, Nat.le_of_ble_eq_true rfl⟩) (fun r739 N739 H locs h hH => ?_)
  have hH := zH_ws hH
  refine lv_icmp_eq (tgt := 1107) hx hb dL_law_742 (by decide) (fun q742 => ?_) (fun q742 => ?_)
  · have h := h.1 q742
    exact wL_b1107 hF hSt hr hlocks hX hbl hbA hnew hag x3 M730 N739 H locs ls hH (lv_sub hl [0, 1, 2, 3] rfl) h
  · have h := h.2 q742
    refine lv_iconst (v := (0 : Int32)) hx hb dL_law_745 (by decide) ?_
    exact h.elim
def pL_b747 (xs : Nat → Int32) (L : Nat) (ag : Int32 → zM → zM → Prop) (x3 : Int32) (M N : zM) : Prop :=
  vp_in (x3 + (1 : Int32)) L ∧ vp_in (x3 + (2 : Int32)) L ∧ pX5_fresh M (xs ((x3 + (1 : Int32))).toNatClampNeg) (xs ((x3 + (2 : Int32))).toNatClampNeg) (fun r758 M758 => vp_in (x3 + (1 : Int32)) L ∧ vp_in (x3 + (2 : Int32)) L ∧ pX6_fresh N (xs ((x3 + (1 : Int32))).toNatClampNeg) (xs ((x3 + (2 : Int32))).toNatClampNeg) (fun r772 N772 => (r758 = r772 → pL_b1107 ag x3 M758 N772) ∧ (¬ (r758 = r772) → False)))
set_option maxHeartbeats 4000000 in
set_option maxRecDepth 100000 in
theorem wL_b747 (hF : CallFix p m c cL_law 4 s #[Value.ref b] lw_tbl RL) (hSt : zSt G s) (hr : meth.sig.returnType = ret) (hlocks : meth.locks = false) (hX : va_X b L xs s s.heap) (hbl : b < s.heap.size) (hbA : ¬ zAA G b) (hnew : ∀ q, zAA G q → s.heap.size ≤ q) {ag : Int32 → zM → zM → Prop} (hag : ∀ (x3 : Int32) (M N : zM) (H : Heap) (locs : List Loc) (ls : Array Slot), ag x3 M N → zH G true s H locs M N → lv_has ls 4 [(0, .ref b), (1, .ref (G.1 0)), (2, .ref (G.1 21)), (3, .int x3)] → W p l e room_1 s m #[Value.ref b] below meth c H locs 43 4721 (lw_Z below #[Value.ref b] s) (F0 m 18 ls [])) (x3 : Int32) (M N : zM) (H : Heap) (locs : List Loc) (ls : Array Slot) (hH : zH G true s H locs M N) (hl : lv_has ls 4 [(0, .ref b), (1, .ref (G.1 0)), (2, .ref (G.1 21)), (3, .int x3)]) (h : pL_b747 xs L ag x3 M N) : W p l e room_1 s m #[Value.ref b] below meth c H locs 43 4721 (lw_Z below #[Value.ref b] s) (F0 m 747 ls []) := by
  obtain ⟨hx, hb, hml, hown, hts⟩ := id hF
  unfold pL_b747 at h
  refine lv_aload_n hx hb dL_law_747 rfl (lv_at hl 1 rfl) ?_
  refine lv_aload_n hx hb dL_law_748 rfl (lv_at hl 0 rfl) ?_
  refine lv_iload_n hx hb dL_law_749 rfl (lv_at hl 3 rfl) ?_
  refine lv_iconst (v := (1 : Int32)) hx hb dL_law_750 (by decide) ?_
  refine lv_iadd hx hb dL_law_751 ?_
  obtain ⟨q752, h⟩ := h
  refine va_sld hx hb hX hbl hbA hH.2 q752 dL_law_752 ?_
  refine lv_aload_n hx hb dL_law_753 rfl (lv_at hl 0 rfl) ?_
  refine lv_iload_n hx hb dL_law_754 rfl (lv_at hl 3 rfl) ?_
  refine lv_iconst (v := (2 : Int32)) hx hb dL_law_755 (by decide) ?_
  refine lv_iadd hx hb dL_law_756 ?_
  obtain ⟨q757, h⟩ := h
  refine va_sld hx hb hX hbl hbA hH.2 q757 dL_law_757 ?_
  refine zcalli hH (va_runV (As := [.int (xs ((x3 + (1 : Int32))).toNatClampNeg), .int (xs ((x3 + (2 : Int32))).toNatClampNeg)]) (rest := []) hF (kX5_fresh l G M N (xs ((x3 + (1 : Int32))).toNatClampNeg) (xs ((x3 + (2 : Int32))).toNatClampNeg) _ h) (cwV 2 hts zgL_X5_fresh rfl rfl rfl ⟨rfl, zdX5_fresh⟩ ⟨Nat.le_of_ble_eq_true rfl, Nat.le_of_ble_eq_true rfl⟩) (zpreV hSt hH 0 (by decide) rfl (zE_0 _ _ _) (q := (RX5, TX5, 5)) rfl [.int (xs ((x3 + (1 : Int32))).toNatClampNeg), .int (xs ((x3 + (2 : Int32))).toNatClampNeg)]) rfl rfl hl.1 rfl (lv_room (Nat.le_of_ble_eq_true rfl)) dL_law_758 ⟨Nat.le_of_ble_eq_true rfl, Nat.le_of_ble_eq_true rfl⟩) (fun r758 M758 H locs h hH => ?_)
  refine lv_aload_n hx hb dL_law_761 rfl (lv_at hl 2 rfl) ?_
  refine lv_aload_n hx hb dL_law_762 rfl (lv_at hl 0 rfl) ?_
  refine lv_iload_n hx hb dL_law_763 rfl (lv_at hl 3 rfl) ?_
  refine lv_iconst (v := (1 : Int32)) hx hb dL_law_764 (by decide) ?_
  refine lv_iadd hx hb dL_law_765 ?_
  obtain ⟨q766, h⟩ := h
  refine va_sld hx hb hX hbl hbA hH.2 q766 dL_law_766 ?_
  refine lv_aload_n hx hb dL_law_767 rfl (lv_at hl 0 rfl) ?_
  refine lv_iload_n hx hb dL_law_768 rfl (lv_at hl 3 rfl) ?_
  refine lv_iconst (v := (2 : Int32)) hx hb dL_law_769 (by decide) ?_
  refine lv_iadd hx hb dL_law_770 ?_
  obtain ⟨q771, h⟩ := h
  refine va_sld hx hb hX hbl hbA hH.2 q771 dL_law_771 ?_
  have hH := zH_sw hH
  refine zcalli hH (va_runV (As := [.int (xs ((x3 + (1 : Int32))).toNatClampNeg), .int (xs ((x3 + (2 : Int32))).toNatClampNeg)]) (rest := [.int r758]) hF (kX6_fresh l G N M758 (xs ((x3 + (1 : Int32))).toNatClampNeg) (xs ((x3 + (2 : Int32))).toNatClampNeg) _ h) (cwV 2 hts zgL_X6_fresh rfl rfl rfl ⟨rfl, zdX6_fresh⟩ ⟨Nat.le_of_ble_eq_true rfl, Nat.le_of_ble_eq_true rfl⟩) (zpreV hSt hH 21 (by decide) rfl (zE_21 _ _ _) (q := (RX6, TX6, 31)) rfl [.int (xs ((x3 + (1 : Int32))).toNatClampNeg), .int (xs ((x3 + (2 : Int32))).toNatClampNeg)]) rfl rfl hl.1 rfl (lv_room (Nat.le_of_ble_eq_true rfl)) dL_law_772 ⟨Nat.le_of_ble_eq_true rfl, Nat.le_of_ble_eq_true rfl⟩) (fun r772 N772 H locs h hH => ?_)
  have hH := zH_ws hH
  refine lv_icmp_eq (tgt := 1107) hx hb dL_law_775 (by decide) (fun q775 => ?_) (fun q775 => ?_)
  · have h := h.1 q775
    exact wL_b1107 hF hSt hr hlocks hX hbl hbA hnew hag x3 M758 N772 H locs ls hH (lv_sub hl [0, 1, 2, 3] rfl) h
  · have h := h.2 q775
    refine lv_iconst (v := (0 : Int32)) hx hb dL_law_778 (by decide) ?_
    exact h.elim
def pL_b780 (xs : Nat → Int32) (L : Nat) (ag : Int32 → zM → zM → Prop) (x3 : Int32) (M N : zM) : Prop :=
  vp_in (x3 + (1 : Int32)) L ∧ vp_in (x3 + (2 : Int32)) L ∧ pX5_solves M (xs ((x3 + (1 : Int32))).toNatClampNeg) (xs ((x3 + (2 : Int32))).toNatClampNeg) (fun r791 M791 => vp_in (x3 + (1 : Int32)) L ∧ vp_in (x3 + (2 : Int32)) L ∧ pX6_solves N (xs ((x3 + (1 : Int32))).toNatClampNeg) (xs ((x3 + (2 : Int32))).toNatClampNeg) (fun r805 N805 => (r791 = r805 → pL_b1107 ag x3 M791 N805) ∧ (¬ (r791 = r805) → False)))
set_option maxHeartbeats 4000000 in
set_option maxRecDepth 100000 in
theorem wL_b780 (hF : CallFix p m c cL_law 4 s #[Value.ref b] lw_tbl RL) (hSt : zSt G s) (hr : meth.sig.returnType = ret) (hlocks : meth.locks = false) (hX : va_X b L xs s s.heap) (hbl : b < s.heap.size) (hbA : ¬ zAA G b) (hnew : ∀ q, zAA G q → s.heap.size ≤ q) {ag : Int32 → zM → zM → Prop} (hag : ∀ (x3 : Int32) (M N : zM) (H : Heap) (locs : List Loc) (ls : Array Slot), ag x3 M N → zH G true s H locs M N → lv_has ls 4 [(0, .ref b), (1, .ref (G.1 0)), (2, .ref (G.1 21)), (3, .int x3)] → W p l e room_1 s m #[Value.ref b] below meth c H locs 43 4721 (lw_Z below #[Value.ref b] s) (F0 m 18 ls [])) (x3 : Int32) (M N : zM) (H : Heap) (locs : List Loc) (ls : Array Slot) (hH : zH G true s H locs M N) (hl : lv_has ls 4 [(0, .ref b), (1, .ref (G.1 0)), (2, .ref (G.1 21)), (3, .int x3)]) (h : pL_b780 xs L ag x3 M N) : W p l e room_1 s m #[Value.ref b] below meth c H locs 43 4721 (lw_Z below #[Value.ref b] s) (F0 m 780 ls []) := by
  obtain ⟨hx, hb, hml, hown, hts⟩ := id hF
  unfold pL_b780 at h
  refine lv_aload_n hx hb dL_law_780 rfl (lv_at hl 1 rfl) ?_
  refine lv_aload_n hx hb dL_law_781 rfl (lv_at hl 0 rfl) ?_
  refine lv_iload_n hx hb dL_law_782 rfl (lv_at hl 3 rfl) ?_
  refine lv_iconst (v := (1 : Int32)) hx hb dL_law_783 (by decide) ?_
  refine lv_iadd hx hb dL_law_784 ?_
  obtain ⟨q785, h⟩ := h
  refine va_sld hx hb hX hbl hbA hH.2 q785 dL_law_785 ?_
  refine lv_aload_n hx hb dL_law_786 rfl (lv_at hl 0 rfl) ?_
  refine lv_iload_n hx hb dL_law_787 rfl (lv_at hl 3 rfl) ?_
  refine lv_iconst (v := (2 : Int32)) hx hb dL_law_788 (by decide) ?_
  refine lv_iadd hx hb dL_law_789 ?_
  obtain ⟨q790, h⟩ := h
  refine va_sld hx hb hX hbl hbA hH.2 q790 dL_law_790 ?_
  refine zcalli hH (va_runV (As := [.int (xs ((x3 + (1 : Int32))).toNatClampNeg), .int (xs ((x3 + (2 : Int32))).toNatClampNeg)]) (rest := []) hF (kX5_solves l G M N (xs ((x3 + (1 : Int32))).toNatClampNeg) (xs ((x3 + (2 : Int32))).toNatClampNeg) _ h) (cwV 2 hts zgL_X5_solves rfl rfl rfl ⟨rfl, zdX5_solves⟩ ⟨Nat.le_of_ble_eq_true rfl, Nat.le_of_ble_eq_true rfl⟩) (zpreV hSt hH 0 (by decide) rfl (zE_0 _ _ _) (q := (RX5, TX5, 5)) rfl [.int (xs ((x3 + (1 : Int32))).toNatClampNeg), .int (xs ((x3 + (2 : Int32))).toNatClampNeg)]) rfl rfl hl.1 rfl (lv_room (Nat.le_of_ble_eq_true rfl)) dL_law_791 ⟨Nat.le_of_ble_eq_true rfl, Nat.le_of_ble_eq_true rfl⟩) (fun r791 M791 H locs h hH => ?_)
  refine lv_aload_n hx hb dL_law_794 rfl (lv_at hl 2 rfl) ?_
  refine lv_aload_n hx hb dL_law_795 rfl (lv_at hl 0 rfl) ?_
  refine lv_iload_n hx hb dL_law_796 rfl (lv_at hl 3 rfl) ?_
  refine lv_iconst (v := (1 : Int32)) hx hb dL_law_797 (by decide) ?_
  refine lv_iadd hx hb dL_law_798 ?_
  obtain ⟨q799, h⟩ := h
  refine va_sld hx hb hX hbl hbA hH.2 q799 dL_law_799 ?_
  refine lv_aload_n hx hb dL_law_800 rfl (lv_at hl 0 rfl) ?_
  refine lv_iload_n hx hb dL_law_801 rfl (lv_at hl 3 rfl) ?_
  refine lv_iconst (v := (2 : Int32)) hx hb dL_law_802 (by decide) ?_
  refine lv_iadd hx hb dL_law_803 ?_
  obtain ⟨q804, h⟩ := h
  refine va_sld hx hb hX hbl hbA hH.2 q804 dL_law_804 ?_
  have hH := zH_sw hH
  refine zcalli hH (va_runV (As := [.int (xs ((x3 + (1 : Int32))).toNatClampNeg), .int (xs ((x3 + (2 : Int32))).toNatClampNeg)]) (rest := [.int r791]) hF (kX6_solves l G N M791 (xs ((x3 + (1 : Int32))).toNatClampNeg) (xs ((x3 + (2 : Int32))).toNatClampNeg) _ h) (cwV 2 hts zgL_X6_solves rfl rfl rfl ⟨rfl, zdX6_solves⟩ ⟨Nat.le_of_ble_eq_true rfl, Nat.le_of_ble_eq_true rfl⟩) (zpreV hSt hH 21 (by decide) rfl (zE_21 _ _ _) (q := (RX6, TX6, 31)) rfl [.int (xs ((x3 + (1 : Int32))).toNatClampNeg), .int (xs ((x3 + (2 : Int32))).toNatClampNeg)]) rfl rfl hl.1 rfl (lv_room (Nat.le_of_ble_eq_true rfl)) dL_law_805 ⟨Nat.le_of_ble_eq_true rfl, Nat.le_of_ble_eq_true rfl⟩) (fun r805 N805 H locs h hH => ?_)
  have hH := zH_ws hH
  refine lv_icmp_eq (tgt := 1107) hx hb dL_law_808 (by decide) (fun q808 => ?_) (fun q808 => ?_)
  · have h := h.1 q808
    exact wL_b1107 hF hSt hr hlocks hX hbl hbA hnew hag x3 M791 N805 H locs ls hH (lv_sub hl [0, 1, 2, 3] rfl) h
  · have h := h.2 q808
    refine lv_iconst (v := (0 : Int32)) hx hb dL_law_811 (by decide) ?_
    exact h.elim
def pL_b813 (xs : Nat → Int32) (L : Nat) (ag : Int32 → zM → zM → Prop) (x3 : Int32) (M N : zM) : Prop :=
  vp_in (x3 + (1 : Int32)) L ∧ vp_in (x3 + (2 : Int32)) L ∧ vp_in (x3 + (3 : Int32)) L ∧ pX5_key M (xs ((x3 + (1 : Int32))).toNatClampNeg) (xs ((x3 + (2 : Int32))).toNatClampNeg) (xs ((x3 + (3 : Int32))).toNatClampNeg) (fun r829 M829 => vp_in (x3 + (1 : Int32)) L ∧ vp_in (x3 + (2 : Int32)) L ∧ vp_in (x3 + (3 : Int32)) L ∧ pX6_key N (xs ((x3 + (1 : Int32))).toNatClampNeg) (xs ((x3 + (2 : Int32))).toNatClampNeg) (xs ((x3 + (3 : Int32))).toNatClampNeg) (fun r848 N848 => (r829 = r848 → pL_b1107 ag x3 M829 N848) ∧ (¬ (r829 = r848) → False)))
set_option maxHeartbeats 4000000 in
set_option maxRecDepth 100000 in
theorem wL_b813 (hF : CallFix p m c cL_law 4 s #[Value.ref b] lw_tbl RL) (hSt : zSt G s) (hr : meth.sig.returnType = ret) (hlocks : meth.locks = false) (hX : va_X b L xs s s.heap) (hbl : b < s.heap.size) (hbA : ¬ zAA G b) (hnew : ∀ q, zAA G q → s.heap.size ≤ q) {ag : Int32 → zM → zM → Prop} (hag : ∀ (x3 : Int32) (M N : zM) (H : Heap) (locs : List Loc) (ls : Array Slot), ag x3 M N → zH G true s H locs M N → lv_has ls 4 [(0, .ref b), (1, .ref (G.1 0)), (2, .ref (G.1 21)), (3, .int x3)] → W p l e room_1 s m #[Value.ref b] below meth c H locs 43 4721 (lw_Z below #[Value.ref b] s) (F0 m 18 ls [])) (x3 : Int32) (M N : zM) (H : Heap) (locs : List Loc) (ls : Array Slot) (hH : zH G true s H locs M N) (hl : lv_has ls 4 [(0, .ref b), (1, .ref (G.1 0)), (2, .ref (G.1 21)), (3, .int x3)]) (h : pL_b813 xs L ag x3 M N) : W p l e room_1 s m #[Value.ref b] below meth c H locs 43 4721 (lw_Z below #[Value.ref b] s) (F0 m 813 ls []) := by
  obtain ⟨hx, hb, hml, hown, hts⟩ := id hF
  unfold pL_b813 at h
  refine lv_aload_n hx hb dL_law_813 rfl (lv_at hl 1 rfl) ?_
  refine lv_aload_n hx hb dL_law_814 rfl (lv_at hl 0 rfl) ?_
  refine lv_iload_n hx hb dL_law_815 rfl (lv_at hl 3 rfl) ?_
  refine lv_iconst (v := (1 : Int32)) hx hb dL_law_816 (by decide) ?_
  refine lv_iadd hx hb dL_law_817 ?_
  obtain ⟨q818, h⟩ := h
  refine va_sld hx hb hX hbl hbA hH.2 q818 dL_law_818 ?_
  refine lv_aload_n hx hb dL_law_819 rfl (lv_at hl 0 rfl) ?_
  refine lv_iload_n hx hb dL_law_820 rfl (lv_at hl 3 rfl) ?_
  refine lv_iconst (v := (2 : Int32)) hx hb dL_law_821 (by decide) ?_
  refine lv_iadd hx hb dL_law_822 ?_
  obtain ⟨q823, h⟩ := h
  refine va_sld hx hb hX hbl hbA hH.2 q823 dL_law_823 ?_
  refine lv_aload_n hx hb dL_law_824 rfl (lv_at hl 0 rfl) ?_
  refine lv_iload_n hx hb dL_law_825 rfl (lv_at hl 3 rfl) ?_
  refine lv_iconst (v := (3 : Int32)) hx hb dL_law_826 (by decide) ?_
  refine lv_iadd hx hb dL_law_827 ?_
  obtain ⟨q828, h⟩ := h
  refine va_sld hx hb hX hbl hbA hH.2 q828 dL_law_828 ?_
  refine zcalli hH (va_runV (As := [.int (xs ((x3 + (1 : Int32))).toNatClampNeg), .int (xs ((x3 + (2 : Int32))).toNatClampNeg), .int (xs ((x3 + (3 : Int32))).toNatClampNeg)]) (rest := []) hF (kX5_key l G M N (xs ((x3 + (1 : Int32))).toNatClampNeg) (xs ((x3 + (2 : Int32))).toNatClampNeg) (xs ((x3 + (3 : Int32))).toNatClampNeg) _ h) (cwV 3 hts zgL_X5_key rfl rfl rfl ⟨rfl, zdX5_key⟩ ⟨Nat.le_of_ble_eq_true rfl, Nat.le_of_ble_eq_true rfl⟩) (zpreV hSt hH 0 (by decide) rfl (zE_0 _ _ _) (q := (RX5, TX5, 5)) rfl [.int (xs ((x3 + (1 : Int32))).toNatClampNeg), .int (xs ((x3 + (2 : Int32))).toNatClampNeg), .int (xs ((x3 + (3 : Int32))).toNatClampNeg)]) rfl rfl hl.1 rfl (lv_room (Nat.le_of_ble_eq_true rfl)) dL_law_829 ⟨Nat.le_of_ble_eq_true rfl, Nat.le_of_ble_eq_true rfl⟩) (fun r829 M829 H locs h hH => ?_)
  refine lv_aload_n hx hb dL_law_832 rfl (lv_at hl 2 rfl) ?_
  refine lv_aload_n hx hb dL_law_833 rfl (lv_at hl 0 rfl) ?_
  refine lv_iload_n hx hb dL_law_834 rfl (lv_at hl 3 rfl) ?_
  refine lv_iconst (v := (1 : Int32)) hx hb dL_law_835 (by decide) ?_
  refine lv_iadd hx hb dL_law_836 ?_
  obtain ⟨q837, h⟩ := h
  refine va_sld hx hb hX hbl hbA hH.2 q837 dL_law_837 ?_
  refine lv_aload_n hx hb dL_law_838 rfl (lv_at hl 0 rfl) ?_
  refine lv_iload_n hx hb dL_law_839 rfl (lv_at hl 3 rfl) ?_
  refine lv_iconst (v := (2 : Int32)) hx hb dL_law_840 (by decide) ?_
  refine lv_iadd hx hb dL_law_841 ?_
  obtain ⟨q842, h⟩ := h
  refine va_sld hx hb hX hbl hbA hH.2 q842 dL_law_842 ?_
  refine lv_aload_n hx hb dL_law_843 rfl (lv_at hl 0 rfl) ?_
  refine lv_iload_n hx hb dL_law_844 rfl (lv_at hl 3 rfl) ?_
  refine lv_iconst (v := (3 : Int32)) hx hb dL_law_845 (by decide) ?_
  refine lv_iadd hx hb dL_law_846 ?_
  obtain ⟨q847, h⟩ := h
  refine va_sld hx hb hX hbl hbA hH.2 q847 dL_law_847 ?_
  have hH := zH_sw hH
  refine zcalli hH (va_runV (As := [.int (xs ((x3 + (1 : Int32))).toNatClampNeg), .int (xs ((x3 + (2 : Int32))).toNatClampNeg), .int (xs ((x3 + (3 : Int32))).toNatClampNeg)]) (rest := [.int r829]) hF (kX6_key l G N M829 (xs ((x3 + (1 : Int32))).toNatClampNeg) (xs ((x3 + (2 : Int32))).toNatClampNeg) (xs ((x3 + (3 : Int32))).toNatClampNeg) _ h) (cwV 3 hts zgL_X6_key rfl rfl rfl ⟨rfl, zdX6_key⟩ ⟨Nat.le_of_ble_eq_true rfl, Nat.le_of_ble_eq_true rfl⟩) (zpreV hSt hH 21 (by decide) rfl (zE_21 _ _ _) (q := (RX6, TX6, 31)) rfl [.int (xs ((x3 + (1 : Int32))).toNatClampNeg), .int (xs ((x3 + (2 : Int32))).toNatClampNeg), .int (xs ((x3 + (3 : Int32))).toNatClampNeg)]) rfl rfl hl.1 rfl (lv_room (Nat.le_of_ble_eq_true rfl)) dL_law_848 ⟨Nat.le_of_ble_eq_true rfl, Nat.le_of_ble_eq_true rfl⟩) (fun r848 N848 H locs h hH => ?_)
  have hH := zH_ws hH
  refine lv_icmp_eq (tgt := 1107) hx hb dL_law_851 (by decide) (fun q851 => ?_) (fun q851 => ?_)
  · have h := h.1 q851
    exact wL_b1107 hF hSt hr hlocks hX hbl hbA hnew hag x3 M829 N848 H locs ls hH (lv_sub hl [0, 1, 2, 3] rfl) h
  · have h := h.2 q851
    refine lv_iconst (v := (0 : Int32)) hx hb dL_law_854 (by decide) ?_
    exact h.elim
def pL_b856 (xs : Nat → Int32) (L : Nat) (ag : Int32 → zM → zM → Prop) (x3 : Int32) (M N : zM) : Prop :=
  vp_in (x3 + (1 : Int32)) L ∧ vp_in (x3 + (2 : Int32)) L ∧ pX5_gets M (xs ((x3 + (1 : Int32))).toNatClampNeg) (xs ((x3 + (2 : Int32))).toNatClampNeg) (fun r867 M867 => vp_in (x3 + (1 : Int32)) L ∧ vp_in (x3 + (2 : Int32)) L ∧ pX6_gets N (xs ((x3 + (1 : Int32))).toNatClampNeg) (xs ((x3 + (2 : Int32))).toNatClampNeg) (fun r881 N881 => ((lg_cmp r867 r881) = 0 → pL_b1107 ag x3 M867 N881) ∧ (¬ ((lg_cmp r867 r881) = 0) → False)))
set_option maxHeartbeats 4000000 in
set_option maxRecDepth 100000 in
theorem wL_b856 (hF : CallFix p m c cL_law 4 s #[Value.ref b] lw_tbl RL) (hSt : zSt G s) (hr : meth.sig.returnType = ret) (hlocks : meth.locks = false) (hX : va_X b L xs s s.heap) (hbl : b < s.heap.size) (hbA : ¬ zAA G b) (hnew : ∀ q, zAA G q → s.heap.size ≤ q) {ag : Int32 → zM → zM → Prop} (hag : ∀ (x3 : Int32) (M N : zM) (H : Heap) (locs : List Loc) (ls : Array Slot), ag x3 M N → zH G true s H locs M N → lv_has ls 4 [(0, .ref b), (1, .ref (G.1 0)), (2, .ref (G.1 21)), (3, .int x3)] → W p l e room_1 s m #[Value.ref b] below meth c H locs 43 4721 (lw_Z below #[Value.ref b] s) (F0 m 18 ls [])) (x3 : Int32) (M N : zM) (H : Heap) (locs : List Loc) (ls : Array Slot) (hH : zH G true s H locs M N) (hl : lv_has ls 4 [(0, .ref b), (1, .ref (G.1 0)), (2, .ref (G.1 21)), (3, .int x3)]) (h : pL_b856 xs L ag x3 M N) : W p l e room_1 s m #[Value.ref b] below meth c H locs 43 4721 (lw_Z below #[Value.ref b] s) (F0 m 856 ls []) := by
  obtain ⟨hx, hb, hml, hown, hts⟩ := id hF
  unfold pL_b856 at h
  refine lv_aload_n hx hb dL_law_856 rfl (lv_at hl 1 rfl) ?_
  refine lv_aload_n hx hb dL_law_857 rfl (lv_at hl 0 rfl) ?_
  refine lv_iload_n hx hb dL_law_858 rfl (lv_at hl 3 rfl) ?_
  refine lv_iconst (v := (1 : Int32)) hx hb dL_law_859 (by decide) ?_
  refine lv_iadd hx hb dL_law_860 ?_
  obtain ⟨q861, h⟩ := h
  refine va_sld hx hb hX hbl hbA hH.2 q861 dL_law_861 ?_
  refine lv_aload_n hx hb dL_law_862 rfl (lv_at hl 0 rfl) ?_
  refine lv_iload_n hx hb dL_law_863 rfl (lv_at hl 3 rfl) ?_
  refine lv_iconst (v := (2 : Int32)) hx hb dL_law_864 (by decide) ?_
  refine lv_iadd hx hb dL_law_865 ?_
  obtain ⟨q866, h⟩ := h
  refine va_sld hx hb hX hbl hbA hH.2 q866 dL_law_866 ?_
  refine zcalll hH (va_runV (As := [.int (xs ((x3 + (1 : Int32))).toNatClampNeg), .int (xs ((x3 + (2 : Int32))).toNatClampNeg)]) (rest := []) hF (kX5_gets l G M N (xs ((x3 + (1 : Int32))).toNatClampNeg) (xs ((x3 + (2 : Int32))).toNatClampNeg) _ h) (cwV 2 hts zgL_X5_gets rfl rfl rfl ⟨rfl, zdX5_gets⟩ ⟨Nat.le_of_ble_eq_true rfl, Nat.le_of_ble_eq_true rfl⟩) (zpreV hSt hH 0 (by decide) rfl (zE_0 _ _ _) (q := (RX5, TX5, 5)) rfl [.int (xs ((x3 + (1 : Int32))).toNatClampNeg), .int (xs ((x3 + (2 : Int32))).toNatClampNeg)]) rfl rfl hl.1 rfl (lv_room (Nat.le_of_ble_eq_true rfl)) dL_law_867 ⟨Nat.le_of_ble_eq_true rfl, Nat.le_of_ble_eq_true rfl⟩) (fun r867 M867 H locs h hH => ?_)
  refine lv_aload_n hx hb dL_law_870 rfl (lv_at hl 2 rfl) ?_
  refine lv_aload_n hx hb dL_law_871 rfl (lv_at hl 0 rfl) ?_
  refine lv_iload_n hx hb dL_law_872 rfl (lv_at hl 3 rfl) ?_
  refine lv_iconst (v := (1 : Int32)) hx hb dL_law_873 (by decide) ?_
  refine lv_iadd hx hb dL_law_874 ?_
  obtain ⟨q875, h⟩ := h
  refine va_sld hx hb hX hbl hbA hH.2 q875 dL_law_875 ?_
  refine lv_aload_n hx hb dL_law_876 rfl (lv_at hl 0 rfl) ?_
  refine lv_iload_n hx hb dL_law_877 rfl (lv_at hl 3 rfl) ?_
  refine lv_iconst (v := (2 : Int32)) hx hb dL_law_878 (by decide) ?_
  refine lv_iadd hx hb dL_law_879 ?_
  obtain ⟨q880, h⟩ := h
  refine va_sld hx hb hX hbl hbA hH.2 q880 dL_law_880 ?_
  have hH := zH_sw hH
  refine zcalll hH (va_runV (As := [.int (xs ((x3 + (1 : Int32))).toNatClampNeg), .int (xs ((x3 + (2 : Int32))).toNatClampNeg)]) (rest := [.long r867]) hF (kX6_gets l G N M867 (xs ((x3 + (1 : Int32))).toNatClampNeg) (xs ((x3 + (2 : Int32))).toNatClampNeg) _ h) (cwV 2 hts zgL_X6_gets rfl rfl rfl ⟨rfl, zdX6_gets⟩ ⟨Nat.le_of_ble_eq_true rfl, Nat.le_of_ble_eq_true rfl⟩) (zpreV hSt hH 21 (by decide) rfl (zE_21 _ _ _) (q := (RX6, TX6, 31)) rfl [.int (xs ((x3 + (1 : Int32))).toNatClampNeg), .int (xs ((x3 + (2 : Int32))).toNatClampNeg)]) rfl rfl hl.1 rfl (lv_room (Nat.le_of_ble_eq_true rfl)) dL_law_881 ⟨Nat.le_of_ble_eq_true rfl, Nat.le_of_ble_eq_true rfl⟩) (fun r881 N881 H locs h hH => ?_)
  have hH := zH_ws hH
  refine W.lcmp hx hb dL_law_884 ?_
  refine lv_if_eq (tgt := 1107) hx hb dL_law_885 (by decide) (fun q885 => ?_) (fun q885 => ?_)
  · have h := h.1 q885
    exact wL_b1107 hF hSt hr hlocks hX hbl hbA hnew hag x3 M867 N881 H locs ls hH (lv_sub hl [0, 1, 2, 3] rfl) h
  · have h := h.2 q885
    refine lv_iconst (v := (0 : Int32)) hx hb dL_law_888 (by decide) ?_
    exact h.elim
def pL_b890 (xs : Nat → Int32) (L : Nat) (ag : Int32 → zM → zM → Prop) (x3 : Int32) (M N : zM) : Prop :=
  vp_in (x3 + (1 : Int32)) L ∧ vp_in (x3 + (2 : Int32)) L ∧ vp_in (x3 + (3 : Int32)) L ∧ pX5_lack M (xs ((x3 + (1 : Int32))).toNatClampNeg) (xs ((x3 + (2 : Int32))).toNatClampNeg) (xs ((x3 + (3 : Int32))).toNatClampNeg) (fun r906 M906 => vp_in (x3 + (1 : Int32)) L ∧ vp_in (x3 + (2 : Int32)) L ∧ vp_in (x3 + (3 : Int32)) L ∧ pX6_lack N (xs ((x3 + (1 : Int32))).toNatClampNeg) (xs ((x3 + (2 : Int32))).toNatClampNeg) (xs ((x3 + (3 : Int32))).toNatClampNeg) (fun r925 N925 => (r906 = r925 → pL_b1107 ag x3 M906 N925) ∧ (¬ (r906 = r925) → False)))
set_option maxHeartbeats 4000000 in
set_option maxRecDepth 100000 in
theorem wL_b890 (hF : CallFix p m c cL_law 4 s #[Value.ref b] lw_tbl RL) (hSt : zSt G s) (hr : meth.sig.returnType = ret) (hlocks : meth.locks = false) (hX : va_X b L xs s s.heap) (hbl : b < s.heap.size) (hbA : ¬ zAA G b) (hnew : ∀ q, zAA G q → s.heap.size ≤ q) {ag : Int32 → zM → zM → Prop} (hag : ∀ (x3 : Int32) (M N : zM) (H : Heap) (locs : List Loc) (ls : Array Slot), ag x3 M N → zH G true s H locs M N → lv_has ls 4 [(0, .ref b), (1, .ref (G.1 0)), (2, .ref (G.1 21)), (3, .int x3)] → W p l e room_1 s m #[Value.ref b] below meth c H locs 43 4721 (lw_Z below #[Value.ref b] s) (F0 m 18 ls [])) (x3 : Int32) (M N : zM) (H : Heap) (locs : List Loc) (ls : Array Slot) (hH : zH G true s H locs M N) (hl : lv_has ls 4 [(0, .ref b), (1, .ref (G.1 0)), (2, .ref (G.1 21)), (3, .int x3)]) (h : pL_b890 xs L ag x3 M N) : W p l e room_1 s m #[Value.ref b] below meth c H locs 43 4721 (lw_Z below #[Value.ref b] s) (F0 m 890 ls []) := by
  obtain ⟨hx, hb, hml, hown, hts⟩ := id hF
  unfold pL_b890 at h
  refine lv_aload_n hx hb dL_law_890 rfl (lv_at hl 1 rfl) ?_
  refine lv_aload_n hx hb dL_law_891 rfl (lv_at hl 0 rfl) ?_
  refine lv_iload_n hx hb dL_law_892 rfl (lv_at hl 3 rfl) ?_
  refine lv_iconst (v := (1 : Int32)) hx hb dL_law_893 (by decide) ?_
  refine lv_iadd hx hb dL_law_894 ?_
  obtain ⟨q895, h⟩ := h
  refine va_sld hx hb hX hbl hbA hH.2 q895 dL_law_895 ?_
  refine lv_aload_n hx hb dL_law_896 rfl (lv_at hl 0 rfl) ?_
  refine lv_iload_n hx hb dL_law_897 rfl (lv_at hl 3 rfl) ?_
  refine lv_iconst (v := (2 : Int32)) hx hb dL_law_898 (by decide) ?_
  refine lv_iadd hx hb dL_law_899 ?_
  obtain ⟨q900, h⟩ := h
  refine va_sld hx hb hX hbl hbA hH.2 q900 dL_law_900 ?_
  refine lv_aload_n hx hb dL_law_901 rfl (lv_at hl 0 rfl) ?_
  refine lv_iload_n hx hb dL_law_902 rfl (lv_at hl 3 rfl) ?_
  refine lv_iconst (v := (3 : Int32)) hx hb dL_law_903 (by decide) ?_
  refine lv_iadd hx hb dL_law_904 ?_
  obtain ⟨q905, h⟩ := h
  refine va_sld hx hb hX hbl hbA hH.2 q905 dL_law_905 ?_
  refine zcalli hH (va_runV (As := [.int (xs ((x3 + (1 : Int32))).toNatClampNeg), .int (xs ((x3 + (2 : Int32))).toNatClampNeg), .int (xs ((x3 + (3 : Int32))).toNatClampNeg)]) (rest := []) hF (kX5_lack l G M N (xs ((x3 + (1 : Int32))).toNatClampNeg) (xs ((x3 + (2 : Int32))).toNatClampNeg) (xs ((x3 + (3 : Int32))).toNatClampNeg) _ h) (cwV 3 hts zgL_X5_lack rfl rfl rfl ⟨rfl, zdX5_lack⟩ ⟨Nat.le_of_ble_eq_true rfl, Nat.le_of_ble_eq_true rfl⟩) (zpreV hSt hH 0 (by decide) rfl (zE_0 _ _ _) (q := (RX5, TX5, 5)) rfl [.int (xs ((x3 + (1 : Int32))).toNatClampNeg), .int (xs ((x3 + (2 : Int32))).toNatClampNeg), .int (xs ((x3 + (3 : Int32))).toNatClampNeg)]) rfl rfl hl.1 rfl (lv_room (Nat.le_of_ble_eq_true rfl)) dL_law_906 ⟨Nat.le_of_ble_eq_true rfl, Nat.le_of_ble_eq_true rfl⟩) (fun r906 M906 H locs h hH => ?_)
  refine lv_aload_n hx hb dL_law_909 rfl (lv_at hl 2 rfl) ?_
  refine lv_aload_n hx hb dL_law_910 rfl (lv_at hl 0 rfl) ?_
  refine lv_iload_n hx hb dL_law_911 rfl (lv_at hl 3 rfl) ?_
  refine lv_iconst (v := (1 : Int32)) hx hb dL_law_912 (by decide) ?_
  refine lv_iadd hx hb dL_law_913 ?_
  obtain ⟨q914, h⟩ := h
  refine va_sld hx hb hX hbl hbA hH.2 q914 dL_law_914 ?_
  refine lv_aload_n hx hb dL_law_915 rfl (lv_at hl 0 rfl) ?_
  refine lv_iload_n hx hb dL_law_916 rfl (lv_at hl 3 rfl) ?_
  refine lv_iconst (v := (2 : Int32)) hx hb dL_law_917 (by decide) ?_
  refine lv_iadd hx hb dL_law_918 ?_
  obtain ⟨q919, h⟩ := h
  refine va_sld hx hb hX hbl hbA hH.2 q919 dL_law_919 ?_
  refine lv_aload_n hx hb dL_law_920 rfl (lv_at hl 0 rfl) ?_
  refine lv_iload_n hx hb dL_law_921 rfl (lv_at hl 3 rfl) ?_
  refine lv_iconst (v := (3 : Int32)) hx hb dL_law_922 (by decide) ?_
  refine lv_iadd hx hb dL_law_923 ?_
  obtain ⟨q924, h⟩ := h
  refine va_sld hx hb hX hbl hbA hH.2 q924 dL_law_924 ?_
  have hH := zH_sw hH
  refine zcalli hH (va_runV (As := [.int (xs ((x3 + (1 : Int32))).toNatClampNeg), .int (xs ((x3 + (2 : Int32))).toNatClampNeg), .int (xs ((x3 + (3 : Int32))).toNatClampNeg)]) (rest := [.int r906]) hF (kX6_lack l G N M906 (xs ((x3 + (1 : Int32))).toNatClampNeg) (xs ((x3 + (2 : Int32))).toNatClampNeg) (xs ((x3 + (3 : Int32))).toNatClampNeg) _ h) (cwV 3 hts zgL_X6_lack rfl rfl rfl ⟨rfl, zdX6_lack⟩ ⟨Nat.le_of_ble_eq_true rfl, Nat.le_of_ble_eq_true rfl⟩) (zpreV hSt hH 21 (by decide) rfl (zE_21 _ _ _) (q := (RX6, TX6, 31)) rfl [.int (xs ((x3 + (1 : Int32))).toNatClampNeg), .int (xs ((x3 + (2 : Int32))).toNatClampNeg), .int (xs ((x3 + (3 : Int32))).toNatClampNeg)]) rfl rfl hl.1 rfl (lv_room (Nat.le_of_ble_eq_true rfl)) dL_law_925 ⟨Nat.le_of_ble_eq_true rfl, Nat.le_of_ble_eq_true rfl⟩) (fun r925 N925 H locs h hH => ?_)
  have hH := zH_ws hH
  refine lv_icmp_eq (tgt := 1107) hx hb dL_law_928 (by decide) (fun q928 => ?_) (fun q928 => ?_)
  · have h := h.1 q928
    exact wL_b1107 hF hSt hr hlocks hX hbl hbA hnew hag x3 M906 N925 H locs ls hH (lv_sub hl [0, 1, 2, 3] rfl) h
  · have h := h.2 q928
    refine lv_iconst (v := (0 : Int32)) hx hb dL_law_931 (by decide) ?_
    exact h.elim
def pL_b933 (xs : Nat → Int32) (L : Nat) (ag : Int32 → zM → zM → Prop) (x3 : Int32) (M N : zM) : Prop :=
  pX5_wrong M  (fun r934 M934 => pX6_wrong N  (fun r938 N938 => (r934 = r938 → pL_b1107 ag x3 M934 N938) ∧ (¬ (r934 = r938) → False)))
set_option maxHeartbeats 4000000 in
set_option maxRecDepth 100000 in
theorem wL_b933 (hF : CallFix p m c cL_law 4 s #[Value.ref b] lw_tbl RL) (hSt : zSt G s) (hr : meth.sig.returnType = ret) (hlocks : meth.locks = false) (hX : va_X b L xs s s.heap) (hbl : b < s.heap.size) (hbA : ¬ zAA G b) (hnew : ∀ q, zAA G q → s.heap.size ≤ q) {ag : Int32 → zM → zM → Prop} (hag : ∀ (x3 : Int32) (M N : zM) (H : Heap) (locs : List Loc) (ls : Array Slot), ag x3 M N → zH G true s H locs M N → lv_has ls 4 [(0, .ref b), (1, .ref (G.1 0)), (2, .ref (G.1 21)), (3, .int x3)] → W p l e room_1 s m #[Value.ref b] below meth c H locs 43 4721 (lw_Z below #[Value.ref b] s) (F0 m 18 ls [])) (x3 : Int32) (M N : zM) (H : Heap) (locs : List Loc) (ls : Array Slot) (hH : zH G true s H locs M N) (hl : lv_has ls 4 [(0, .ref b), (1, .ref (G.1 0)), (2, .ref (G.1 21)), (3, .int x3)]) (h : pL_b933 xs L ag x3 M N) : W p l e room_1 s m #[Value.ref b] below meth c H locs 43 4721 (lw_Z below #[Value.ref b] s) (F0 m 933 ls []) := by
  obtain ⟨hx, hb, hml, hown, hts⟩ := id hF
  unfold pL_b933 at h
  refine lv_aload_n hx hb dL_law_933 rfl (lv_at hl 1 rfl) ?_
  refine zcalli hH (va_runV (As := []) (rest := []) hF (kX5_wrong l G M N _ h) (cwV 0 hts zgL_X5_wrong rfl rfl rfl ⟨rfl, zdX5_wrong⟩ ⟨Nat.le_of_ble_eq_true rfl, Nat.le_of_ble_eq_true rfl⟩) (zpreV hSt hH 0 (by decide) rfl (zE_0 _ _ _) (q := (RX5, TX5, 5)) rfl []) rfl rfl hl.1 rfl (lv_room (Nat.le_of_ble_eq_true rfl)) dL_law_934 ⟨Nat.le_of_ble_eq_true rfl, Nat.le_of_ble_eq_true rfl⟩) (fun r934 M934 H locs h hH => ?_)
  refine lv_aload_n hx hb dL_law_937 rfl (lv_at hl 2 rfl) ?_
  have hH := zH_sw hH
  refine zcalli hH (va_runV (As := []) (rest := [.int r934]) hF (kX6_wrong l G N M934 _ h) (cwV 0 hts zgL_X6_wrong rfl rfl rfl ⟨rfl, zdX6_wrong⟩ ⟨Nat.le_of_ble_eq_true rfl, Nat.le_of_ble_eq_true rfl⟩) (zpreV hSt hH 21 (by decide) rfl (zE_21 _ _ _) (q := (RX6, TX6, 31)) rfl []) rfl rfl hl.1 rfl (lv_room (Nat.le_of_ble_eq_true rfl)) dL_law_938 ⟨Nat.le_of_ble_eq_true rfl, Nat.le_of_ble_eq_true rfl⟩) (fun r938 N938 H locs h hH => ?_)
  have hH := zH_ws hH
  refine lv_icmp_eq (tgt := 1107) hx hb dL_law_941 (by decide) (fun q941 => ?_) (fun q941 => ?_)
  · have h := h.1 q941
    exact wL_b1107 hF hSt hr hlocks hX hbl hbA hnew hag x3 M934 N938 H locs ls hH (lv_sub hl [0, 1, 2, 3] rfl) h
  · have h := h.2 q941
    refine lv_iconst (v := (0 : Int32)) hx hb dL_law_944 (by decide) ?_
    exact h.elim
def pL_b946 (xs : Nat → Int32) (L : Nat) (ag : Int32 → zM → zM → Prop) (x3 : Int32) (M N : zM) : Prop :=
  pX5_left M  (fun r947 M947 => pX6_left N  (fun r951 N951 => (r947 = r951 → pL_b1107 ag x3 M947 N951) ∧ (¬ (r947 = r951) → False)))
set_option maxHeartbeats 4000000 in
set_option maxRecDepth 100000 in
theorem wL_b946 (hF : CallFix p m c cL_law 4 s #[Value.ref b] lw_tbl RL) (hSt : zSt G s) (hr : meth.sig.returnType = ret) (hlocks : meth.locks = false) (hX : va_X b L xs s s.heap) (hbl : b < s.heap.size) (hbA : ¬ zAA G b) (hnew : ∀ q, zAA G q → s.heap.size ≤ q) {ag : Int32 → zM → zM → Prop} (hag : ∀ (x3 : Int32) (M N : zM) (H : Heap) (locs : List Loc) (ls : Array Slot), ag x3 M N → zH G true s H locs M N → lv_has ls 4 [(0, .ref b), (1, .ref (G.1 0)), (2, .ref (G.1 21)), (3, .int x3)] → W p l e room_1 s m #[Value.ref b] below meth c H locs 43 4721 (lw_Z below #[Value.ref b] s) (F0 m 18 ls [])) (x3 : Int32) (M N : zM) (H : Heap) (locs : List Loc) (ls : Array Slot) (hH : zH G true s H locs M N) (hl : lv_has ls 4 [(0, .ref b), (1, .ref (G.1 0)), (2, .ref (G.1 21)), (3, .int x3)]) (h : pL_b946 xs L ag x3 M N) : W p l e room_1 s m #[Value.ref b] below meth c H locs 43 4721 (lw_Z below #[Value.ref b] s) (F0 m 946 ls []) := by
  obtain ⟨hx, hb, hml, hown, hts⟩ := id hF
  unfold pL_b946 at h
  refine lv_aload_n hx hb dL_law_946 rfl (lv_at hl 1 rfl) ?_
  refine zcalli hH (va_runV (As := []) (rest := []) hF (kX5_left l G M N _ h) (cwV 0 hts zgL_X5_left rfl rfl rfl ⟨rfl, zdX5_left⟩ ⟨Nat.le_of_ble_eq_true rfl, Nat.le_of_ble_eq_true rfl⟩) (zpreV hSt hH 0 (by decide) rfl (zE_0 _ _ _) (q := (RX5, TX5, 5)) rfl []) rfl rfl hl.1 rfl (lv_room (Nat.le_of_ble_eq_true rfl)) dL_law_947 ⟨Nat.le_of_ble_eq_true rfl, Nat.le_of_ble_eq_true rfl⟩) (fun r947 M947 H locs h hH => ?_)
  refine lv_aload_n hx hb dL_law_950 rfl (lv_at hl 2 rfl) ?_
  have hH := zH_sw hH
  refine zcalli hH (va_runV (As := []) (rest := [.int r947]) hF (kX6_left l G N M947 _ h) (cwV 0 hts zgL_X6_left rfl rfl rfl ⟨rfl, zdX6_left⟩ ⟨Nat.le_of_ble_eq_true rfl, Nat.le_of_ble_eq_true rfl⟩) (zpreV hSt hH 21 (by decide) rfl (zE_21 _ _ _) (q := (RX6, TX6, 31)) rfl []) rfl rfl hl.1 rfl (lv_room (Nat.le_of_ble_eq_true rfl)) dL_law_951 ⟨Nat.le_of_ble_eq_true rfl, Nat.le_of_ble_eq_true rfl⟩) (fun r951 N951 H locs h hH => ?_)
  have hH := zH_ws hH
  refine lv_icmp_eq (tgt := 1107) hx hb dL_law_954 (by decide) (fun q954 => ?_) (fun q954 => ?_)
  · have h := h.1 q954
    exact wL_b1107 hF hSt hr hlocks hX hbl hbA hnew hag x3 M947 N951 H locs ls hH (lv_sub hl [0, 1, 2, 3] rfl) h
  · have h := h.2 q954
    refine lv_iconst (v := (0 : Int32)) hx hb dL_law_957 (by decide) ?_
    exact h.elim
def pL_b959 (xs : Nat → Int32) (L : Nat) (ag : Int32 → zM → zM → Prop) (x3 : Int32) (M N : zM) : Prop :=
  vp_in (x3 + (1 : Int32)) L ∧ pX5_draw M (xs ((x3 + (1 : Int32))).toNatClampNeg) (fun r965 M965 => vp_in (x3 + (1 : Int32)) L ∧ pX6_draw N (xs ((x3 + (1 : Int32))).toNatClampNeg) (fun r974 N974 => (r965 = r974 → pL_b1107 ag x3 M965 N974) ∧ (¬ (r965 = r974) → False)))
set_option maxHeartbeats 4000000 in
set_option maxRecDepth 100000 in
theorem wL_b959 (hF : CallFix p m c cL_law 4 s #[Value.ref b] lw_tbl RL) (hSt : zSt G s) (hr : meth.sig.returnType = ret) (hlocks : meth.locks = false) (hX : va_X b L xs s s.heap) (hbl : b < s.heap.size) (hbA : ¬ zAA G b) (hnew : ∀ q, zAA G q → s.heap.size ≤ q) {ag : Int32 → zM → zM → Prop} (hag : ∀ (x3 : Int32) (M N : zM) (H : Heap) (locs : List Loc) (ls : Array Slot), ag x3 M N → zH G true s H locs M N → lv_has ls 4 [(0, .ref b), (1, .ref (G.1 0)), (2, .ref (G.1 21)), (3, .int x3)] → W p l e room_1 s m #[Value.ref b] below meth c H locs 43 4721 (lw_Z below #[Value.ref b] s) (F0 m 18 ls [])) (x3 : Int32) (M N : zM) (H : Heap) (locs : List Loc) (ls : Array Slot) (hH : zH G true s H locs M N) (hl : lv_has ls 4 [(0, .ref b), (1, .ref (G.1 0)), (2, .ref (G.1 21)), (3, .int x3)]) (h : pL_b959 xs L ag x3 M N) : W p l e room_1 s m #[Value.ref b] below meth c H locs 43 4721 (lw_Z below #[Value.ref b] s) (F0 m 959 ls []) := by
  obtain ⟨hx, hb, hml, hown, hts⟩ := id hF
  unfold pL_b959 at h
  refine lv_aload_n hx hb dL_law_959 rfl (lv_at hl 1 rfl) ?_
  refine lv_aload_n hx hb dL_law_960 rfl (lv_at hl 0 rfl) ?_
  refine lv_iload_n hx hb dL_law_961 rfl (lv_at hl 3 rfl) ?_
  refine lv_iconst (v := (1 : Int32)) hx hb dL_law_962 (by decide) ?_
  refine lv_iadd hx hb dL_law_963 ?_
  obtain ⟨q964, h⟩ := h
  refine va_sld hx hb hX hbl hbA hH.2 q964 dL_law_964 ?_
  refine zcalli hH (va_runV (As := [.int (xs ((x3 + (1 : Int32))).toNatClampNeg)]) (rest := []) hF (kX5_draw l G M N (xs ((x3 + (1 : Int32))).toNatClampNeg) _ h) (cwV 1 hts zgL_X5_draw rfl rfl rfl ⟨rfl, zdX5_draw⟩ ⟨Nat.le_of_ble_eq_true rfl, Nat.le_of_ble_eq_true rfl⟩) (zpreV hSt hH 0 (by decide) rfl (zE_0 _ _ _) (q := (RX5, TX5, 5)) rfl [.int (xs ((x3 + (1 : Int32))).toNatClampNeg)]) rfl rfl hl.1 rfl (lv_room (Nat.le_of_ble_eq_true rfl)) dL_law_965 ⟨Nat.le_of_ble_eq_true rfl, Nat.le_of_ble_eq_true rfl⟩) (fun r965 M965 H locs h hH => ?_)
  refine lv_aload_n hx hb dL_law_968 rfl (lv_at hl 2 rfl) ?_
  refine lv_aload_n hx hb dL_law_969 rfl (lv_at hl 0 rfl) ?_
  refine lv_iload_n hx hb dL_law_970 rfl (lv_at hl 3 rfl) ?_
  refine lv_iconst (v := (1 : Int32)) hx hb dL_law_971 (by decide) ?_
  refine lv_iadd hx hb dL_law_972 ?_
  obtain ⟨q973, h⟩ := h
  refine va_sld hx hb hX hbl hbA hH.2 q973 dL_law_973 ?_
  have hH := zH_sw hH
  refine zcalli hH (va_runV (As := [.int (xs ((x3 + (1 : Int32))).toNatClampNeg)]) (rest := [.int r965]) hF (kX6_draw l G N M965 (xs ((x3 + (1 : Int32))).toNatClampNeg) _ h) (cwV 1 hts zgL_X6_draw rfl rfl rfl ⟨rfl, zdX6_draw⟩ ⟨Nat.le_of_ble_eq_true rfl, Nat.le_of_ble_eq_true rfl⟩) (zpreV hSt hH 21 (by decide) rfl (zE_21 _ _ _) (q := (RX6, TX6, 31)) rfl [.int (xs ((x3 + (1 : Int32))).toNatClampNeg)]) rfl rfl hl.1 rfl (lv_room (Nat.le_of_ble_eq_true rfl)) dL_law_974 ⟨Nat.le_of_ble_eq_true rfl, Nat.le_of_ble_eq_true rfl⟩) (fun r974 N974 H locs h hH => ?_)
  have hH := zH_ws hH
  refine lv_icmp_eq (tgt := 1107) hx hb dL_law_977 (by decide) (fun q977 => ?_) (fun q977 => ?_)
  · have h := h.1 q977
    exact wL_b1107 hF hSt hr hlocks hX hbl hbA hnew hag x3 M965 N974 H locs ls hH (lv_sub hl [0, 1, 2, 3] rfl) h
  · have h := h.2 q977
    refine lv_iconst (v := (0 : Int32)) hx hb dL_law_980 (by decide) ?_
    exact h.elim
def pL_b982 (xs : Nat → Int32) (L : Nat) (ag : Int32 → zM → zM → Prop) (x3 : Int32) (M N : zM) : Prop :=
  pX5_find M  (fun r983 M983 => pX6_find N  (fun r987 N987 => (r983 = r987 → pL_b1107 ag x3 M983 N987) ∧ (¬ (r983 = r987) → False)))
set_option maxHeartbeats 4000000 in
set_option maxRecDepth 100000 in
theorem wL_b982 (hF : CallFix p m c cL_law 4 s #[Value.ref b] lw_tbl RL) (hSt : zSt G s) (hr : meth.sig.returnType = ret) (hlocks : meth.locks = false) (hX : va_X b L xs s s.heap) (hbl : b < s.heap.size) (hbA : ¬ zAA G b) (hnew : ∀ q, zAA G q → s.heap.size ≤ q) {ag : Int32 → zM → zM → Prop} (hag : ∀ (x3 : Int32) (M N : zM) (H : Heap) (locs : List Loc) (ls : Array Slot), ag x3 M N → zH G true s H locs M N → lv_has ls 4 [(0, .ref b), (1, .ref (G.1 0)), (2, .ref (G.1 21)), (3, .int x3)] → W p l e room_1 s m #[Value.ref b] below meth c H locs 43 4721 (lw_Z below #[Value.ref b] s) (F0 m 18 ls [])) (x3 : Int32) (M N : zM) (H : Heap) (locs : List Loc) (ls : Array Slot) (hH : zH G true s H locs M N) (hl : lv_has ls 4 [(0, .ref b), (1, .ref (G.1 0)), (2, .ref (G.1 21)), (3, .int x3)]) (h : pL_b982 xs L ag x3 M N) : W p l e room_1 s m #[Value.ref b] below meth c H locs 43 4721 (lw_Z below #[Value.ref b] s) (F0 m 982 ls []) := by
  obtain ⟨hx, hb, hml, hown, hts⟩ := id hF
  unfold pL_b982 at h
  refine lv_aload_n hx hb dL_law_982 rfl (lv_at hl 1 rfl) ?_
  refine zcalli hH (va_runV (As := []) (rest := []) hF (kX5_find l G M N _ h) (cwV 0 hts zgL_X5_find rfl rfl rfl ⟨rfl, zdX5_find⟩ ⟨Nat.le_of_ble_eq_true rfl, Nat.le_of_ble_eq_true rfl⟩) (zpreV hSt hH 0 (by decide) rfl (zE_0 _ _ _) (q := (RX5, TX5, 5)) rfl []) rfl rfl hl.1 rfl (lv_room (Nat.le_of_ble_eq_true rfl)) dL_law_983 ⟨Nat.le_of_ble_eq_true rfl, Nat.le_of_ble_eq_true rfl⟩) (fun r983 M983 H locs h hH => ?_)
  refine lv_aload_n hx hb dL_law_986 rfl (lv_at hl 2 rfl) ?_
  have hH := zH_sw hH
  refine zcalli hH (va_runV (As := []) (rest := [.int r983]) hF (kX6_find l G N M983 _ h) (cwV 0 hts zgL_X6_find rfl rfl rfl ⟨rfl, zdX6_find⟩ ⟨Nat.le_of_ble_eq_true rfl, Nat.le_of_ble_eq_true rfl⟩) (zpreV hSt hH 21 (by decide) rfl (zE_21 _ _ _) (q := (RX6, TX6, 31)) rfl []) rfl rfl hl.1 rfl (lv_room (Nat.le_of_ble_eq_true rfl)) dL_law_987 ⟨Nat.le_of_ble_eq_true rfl, Nat.le_of_ble_eq_true rfl⟩) (fun r987 N987 H locs h hH => ?_)
  have hH := zH_ws hH
  refine lv_icmp_eq (tgt := 1107) hx hb dL_law_990 (by decide) (fun q990 => ?_) (fun q990 => ?_)
  · have h := h.1 q990
    exact wL_b1107 hF hSt hr hlocks hX hbl hbA hnew hag x3 M983 N987 H locs ls hH (lv_sub hl [0, 1, 2, 3] rfl) h
  · have h := h.2 q990
    refine lv_iconst (v := (0 : Int32)) hx hb dL_law_993 (by decide) ?_
    exact h.elim
def pL_b995 (xs : Nat → Int32) (L : Nat) (ag : Int32 → zM → zM → Prop) (x3 : Int32) (M N : zM) : Prop :=
  pX5_leave M  (fun r996 M996 => pX6_leave N  (fun r1000 N1000 => (r996 = r1000 → pL_b1107 ag x3 M996 N1000) ∧ (¬ (r996 = r1000) → False)))
set_option maxHeartbeats 4000000 in
set_option maxRecDepth 100000 in
theorem wL_b995 (hF : CallFix p m c cL_law 4 s #[Value.ref b] lw_tbl RL) (hSt : zSt G s) (hr : meth.sig.returnType = ret) (hlocks : meth.locks = false) (hX : va_X b L xs s s.heap) (hbl : b < s.heap.size) (hbA : ¬ zAA G b) (hnew : ∀ q, zAA G q → s.heap.size ≤ q) {ag : Int32 → zM → zM → Prop} (hag : ∀ (x3 : Int32) (M N : zM) (H : Heap) (locs : List Loc) (ls : Array Slot), ag x3 M N → zH G true s H locs M N → lv_has ls 4 [(0, .ref b), (1, .ref (G.1 0)), (2, .ref (G.1 21)), (3, .int x3)] → W p l e room_1 s m #[Value.ref b] below meth c H locs 43 4721 (lw_Z below #[Value.ref b] s) (F0 m 18 ls [])) (x3 : Int32) (M N : zM) (H : Heap) (locs : List Loc) (ls : Array Slot) (hH : zH G true s H locs M N) (hl : lv_has ls 4 [(0, .ref b), (1, .ref (G.1 0)), (2, .ref (G.1 21)), (3, .int x3)]) (h : pL_b995 xs L ag x3 M N) : W p l e room_1 s m #[Value.ref b] below meth c H locs 43 4721 (lw_Z below #[Value.ref b] s) (F0 m 995 ls []) := by
  obtain ⟨hx, hb, hml, hown, hts⟩ := id hF
  unfold pL_b995 at h
  refine lv_aload_n hx hb dL_law_995 rfl (lv_at hl 1 rfl) ?_
  refine zcalli hH (va_runV (As := []) (rest := []) hF (kX5_leave l G M N _ h) (cwV 0 hts zgL_X5_leave rfl rfl rfl ⟨rfl, zdX5_leave⟩ ⟨Nat.le_of_ble_eq_true rfl, Nat.le_of_ble_eq_true rfl⟩) (zpreV hSt hH 0 (by decide) rfl (zE_0 _ _ _) (q := (RX5, TX5, 5)) rfl []) rfl rfl hl.1 rfl (lv_room (Nat.le_of_ble_eq_true rfl)) dL_law_996 ⟨Nat.le_of_ble_eq_true rfl, Nat.le_of_ble_eq_true rfl⟩) (fun r996 M996 H locs h hH => ?_)
  refine lv_aload_n hx hb dL_law_999 rfl (lv_at hl 2 rfl) ?_
  have hH := zH_sw hH
  refine zcalli hH (va_runV (As := []) (rest := [.int r996]) hF (kX6_leave l G N M996 _ h) (cwV 0 hts zgL_X6_leave rfl rfl rfl ⟨rfl, zdX6_leave⟩ ⟨Nat.le_of_ble_eq_true rfl, Nat.le_of_ble_eq_true rfl⟩) (zpreV hSt hH 21 (by decide) rfl (zE_21 _ _ _) (q := (RX6, TX6, 31)) rfl []) rfl rfl hl.1 rfl (lv_room (Nat.le_of_ble_eq_true rfl)) dL_law_1000 ⟨Nat.le_of_ble_eq_true rfl, Nat.le_of_ble_eq_true rfl⟩) (fun r1000 N1000 H locs h hH => ?_)
  have hH := zH_ws hH
  refine lv_icmp_eq (tgt := 1107) hx hb dL_law_1003 (by decide) (fun q1003 => ?_) (fun q1003 => ?_)
  · have h := h.1 q1003
    exact wL_b1107 hF hSt hr hlocks hX hbl hbA hnew hag x3 M996 N1000 H locs ls hH (lv_sub hl [0, 1, 2, 3] rfl) h
  · have h := h.2 q1003
    refine lv_iconst (v := (0 : Int32)) hx hb dL_law_1006 (by decide) ?_
    exact h.elim
def pL_b1008 (xs : Nat → Int32) (L : Nat) (ag : Int32 → zM → zM → Prop) (x3 : Int32) (M N : zM) : Prop :=
  vp_in (x3 + (1 : Int32)) L ∧ vp_in (x3 + (2 : Int32)) L ∧ pX5_safe M (xs ((x3 + (1 : Int32))).toNatClampNeg) (xs ((x3 + (2 : Int32))).toNatClampNeg) (fun r1019 M1019 => vp_in (x3 + (1 : Int32)) L ∧ vp_in (x3 + (2 : Int32)) L ∧ pX6_safe N (xs ((x3 + (1 : Int32))).toNatClampNeg) (xs ((x3 + (2 : Int32))).toNatClampNeg) (fun r1033 N1033 => (r1019 = r1033 → pL_b1107 ag x3 M1019 N1033) ∧ (¬ (r1019 = r1033) → False)))
set_option maxHeartbeats 4000000 in
set_option maxRecDepth 100000 in
theorem wL_b1008 (hF : CallFix p m c cL_law 4 s #[Value.ref b] lw_tbl RL) (hSt : zSt G s) (hr : meth.sig.returnType = ret) (hlocks : meth.locks = false) (hX : va_X b L xs s s.heap) (hbl : b < s.heap.size) (hbA : ¬ zAA G b) (hnew : ∀ q, zAA G q → s.heap.size ≤ q) {ag : Int32 → zM → zM → Prop} (hag : ∀ (x3 : Int32) (M N : zM) (H : Heap) (locs : List Loc) (ls : Array Slot), ag x3 M N → zH G true s H locs M N → lv_has ls 4 [(0, .ref b), (1, .ref (G.1 0)), (2, .ref (G.1 21)), (3, .int x3)] → W p l e room_1 s m #[Value.ref b] below meth c H locs 43 4721 (lw_Z below #[Value.ref b] s) (F0 m 18 ls [])) (x3 : Int32) (M N : zM) (H : Heap) (locs : List Loc) (ls : Array Slot) (hH : zH G true s H locs M N) (hl : lv_has ls 4 [(0, .ref b), (1, .ref (G.1 0)), (2, .ref (G.1 21)), (3, .int x3)]) (h : pL_b1008 xs L ag x3 M N) : W p l e room_1 s m #[Value.ref b] below meth c H locs 43 4721 (lw_Z below #[Value.ref b] s) (F0 m 1008 ls []) := by
  obtain ⟨hx, hb, hml, hown, hts⟩ := id hF
  unfold pL_b1008 at h
  refine lv_aload_n hx hb dL_law_1008 rfl (lv_at hl 1 rfl) ?_
  refine lv_aload_n hx hb dL_law_1009 rfl (lv_at hl 0 rfl) ?_
  refine lv_iload_n hx hb dL_law_1010 rfl (lv_at hl 3 rfl) ?_
  refine lv_iconst (v := (1 : Int32)) hx hb dL_law_1011 (by decide) ?_
  refine lv_iadd hx hb dL_law_1012 ?_
  obtain ⟨q1013, h⟩ := h
  refine va_sld hx hb hX hbl hbA hH.2 q1013 dL_law_1013 ?_
  refine lv_aload_n hx hb dL_law_1014 rfl (lv_at hl 0 rfl) ?_
  refine lv_iload_n hx hb dL_law_1015 rfl (lv_at hl 3 rfl) ?_
  refine lv_iconst (v := (2 : Int32)) hx hb dL_law_1016 (by decide) ?_
  refine lv_iadd hx hb dL_law_1017 ?_
  obtain ⟨q1018, h⟩ := h
  refine va_sld hx hb hX hbl hbA hH.2 q1018 dL_law_1018 ?_
  refine zcalli hH (va_runV (As := [.int (xs ((x3 + (1 : Int32))).toNatClampNeg), .int (xs ((x3 + (2 : Int32))).toNatClampNeg)]) (rest := []) hF (kX5_safe l G M N (xs ((x3 + (1 : Int32))).toNatClampNeg) (xs ((x3 + (2 : Int32))).toNatClampNeg) _ h) (cwV 2 hts zgL_X5_safe rfl rfl rfl ⟨rfl, zdX5_safe⟩ ⟨Nat.le_of_ble_eq_true rfl, Nat.le_of_ble_eq_true rfl⟩) (zpreV hSt hH 0 (by decide) rfl (zE_0 _ _ _) (q := (RX5, TX5, 5)) rfl [.int (xs ((x3 + (1 : Int32))).toNatClampNeg), .int (xs ((x3 + (2 : Int32))).toNatClampNeg)]) rfl rfl hl.1 rfl (lv_room (Nat.le_of_ble_eq_true rfl)) dL_law_1019 ⟨Nat.le_of_ble_eq_true rfl, Nat.le_of_ble_eq_true rfl⟩) (fun r1019 M1019 H locs h hH => ?_)
  refine lv_aload_n hx hb dL_law_1022 rfl (lv_at hl 2 rfl) ?_
  refine lv_aload_n hx hb dL_law_1023 rfl (lv_at hl 0 rfl) ?_
  refine lv_iload_n hx hb dL_law_1024 rfl (lv_at hl 3 rfl) ?_
  refine lv_iconst (v := (1 : Int32)) hx hb dL_law_1025 (by decide) ?_
  refine lv_iadd hx hb dL_law_1026 ?_
  obtain ⟨q1027, h⟩ := h
  refine va_sld hx hb hX hbl hbA hH.2 q1027 dL_law_1027 ?_
  refine lv_aload_n hx hb dL_law_1028 rfl (lv_at hl 0 rfl) ?_
  refine lv_iload_n hx hb dL_law_1029 rfl (lv_at hl 3 rfl) ?_
  refine lv_iconst (v := (2 : Int32)) hx hb dL_law_1030 (by decide) ?_
  refine lv_iadd hx hb dL_law_1031 ?_
  obtain ⟨q1032, h⟩ := h
  refine va_sld hx hb hX hbl hbA hH.2 q1032 dL_law_1032 ?_
  have hH := zH_sw hH
  refine zcalli hH (va_runV (As := [.int (xs ((x3 + (1 : Int32))).toNatClampNeg), .int (xs ((x3 + (2 : Int32))).toNatClampNeg)]) (rest := [.int r1019]) hF (kX6_safe l G N M1019 (xs ((x3 + (1 : Int32))).toNatClampNeg) (xs ((x3 + (2 : Int32))).toNatClampNeg) _ h) (cwV 2 hts zgL_X6_safe rfl rfl rfl ⟨rfl, zdX6_safe⟩ ⟨Nat.le_of_ble_eq_true rfl, Nat.le_of_ble_eq_true rfl⟩) (zpreV hSt hH 21 (by decide) rfl (zE_21 _ _ _) (q := (RX6, TX6, 31)) rfl [.int (xs ((x3 + (1 : Int32))).toNatClampNeg), .int (xs ((x3 + (2 : Int32))).toNatClampNeg)]) rfl rfl hl.1 rfl (lv_room (Nat.le_of_ble_eq_true rfl)) dL_law_1033 ⟨Nat.le_of_ble_eq_true rfl, Nat.le_of_ble_eq_true rfl⟩) (fun r1033 N1033 H locs h hH => ?_)
  have hH := zH_ws hH
  refine lv_icmp_eq (tgt := 1107) hx hb dL_law_1036 (by decide) (fun q1036 => ?_) (fun q1036 => ?_)
  · have h := h.1 q1036
    exact wL_b1107 hF hSt hr hlocks hX hbl hbA hnew hag x3 M1019 N1033 H locs ls hH (lv_sub hl [0, 1, 2, 3] rfl) h
  · have h := h.2 q1036
    refine lv_iconst (v := (0 : Int32)) hx hb dL_law_1039 (by decide) ?_
    exact h.elim
def pL_b1041 (xs : Nat → Int32) (L : Nat) (ag : Int32 → zM → zM → Prop) (x3 : Int32) (M N : zM) : Prop :=
  vp_in (x3 + (1 : Int32)) L ∧ vp_in (x3 + (2 : Int32)) L ∧ vp_in (x3 + (3 : Int32)) L ∧ pX5_breaks M (xs ((x3 + (1 : Int32))).toNatClampNeg) (xs ((x3 + (2 : Int32))).toNatClampNeg) (xs ((x3 + (3 : Int32))).toNatClampNeg) (fun r1057 M1057 => vp_in (x3 + (1 : Int32)) L ∧ vp_in (x3 + (2 : Int32)) L ∧ vp_in (x3 + (3 : Int32)) L ∧ pX6_breaks N (xs ((x3 + (1 : Int32))).toNatClampNeg) (xs ((x3 + (2 : Int32))).toNatClampNeg) (xs ((x3 + (3 : Int32))).toNatClampNeg) (fun r1076 N1076 => (r1057 = r1076 → pL_b1107 ag x3 M1057 N1076) ∧ (¬ (r1057 = r1076) → False)))
set_option maxHeartbeats 4000000 in
set_option maxRecDepth 100000 in
theorem wL_b1041 (hF : CallFix p m c cL_law 4 s #[Value.ref b] lw_tbl RL) (hSt : zSt G s) (hr : meth.sig.returnType = ret) (hlocks : meth.locks = false) (hX : va_X b L xs s s.heap) (hbl : b < s.heap.size) (hbA : ¬ zAA G b) (hnew : ∀ q, zAA G q → s.heap.size ≤ q) {ag : Int32 → zM → zM → Prop} (hag : ∀ (x3 : Int32) (M N : zM) (H : Heap) (locs : List Loc) (ls : Array Slot), ag x3 M N → zH G true s H locs M N → lv_has ls 4 [(0, .ref b), (1, .ref (G.1 0)), (2, .ref (G.1 21)), (3, .int x3)] → W p l e room_1 s m #[Value.ref b] below meth c H locs 43 4721 (lw_Z below #[Value.ref b] s) (F0 m 18 ls [])) (x3 : Int32) (M N : zM) (H : Heap) (locs : List Loc) (ls : Array Slot) (hH : zH G true s H locs M N) (hl : lv_has ls 4 [(0, .ref b), (1, .ref (G.1 0)), (2, .ref (G.1 21)), (3, .int x3)]) (h : pL_b1041 xs L ag x3 M N) : W p l e room_1 s m #[Value.ref b] below meth c H locs 43 4721 (lw_Z below #[Value.ref b] s) (F0 m 1041 ls []) := by
  obtain ⟨hx, hb, hml, hown, hts⟩ := id hF
  unfold pL_b1041 at h
  refine lv_aload_n hx hb dL_law_1041 rfl (lv_at hl 1 rfl) ?_
  refine lv_aload_n hx hb dL_law_1042 rfl (lv_at hl 0 rfl) ?_
  refine lv_iload_n hx hb dL_law_1043 rfl (lv_at hl 3 rfl) ?_
  refine lv_iconst (v := (1 : Int32)) hx hb dL_law_1044 (by decide) ?_
  refine lv_iadd hx hb dL_law_1045 ?_
  obtain ⟨q1046, h⟩ := h
  refine va_sld hx hb hX hbl hbA hH.2 q1046 dL_law_1046 ?_
  refine lv_aload_n hx hb dL_law_1047 rfl (lv_at hl 0 rfl) ?_
  refine lv_iload_n hx hb dL_law_1048 rfl (lv_at hl 3 rfl) ?_
  refine lv_iconst (v := (2 : Int32)) hx hb dL_law_1049 (by decide) ?_
  refine lv_iadd hx hb dL_law_1050 ?_
  obtain ⟨q1051, h⟩ := h
  refine va_sld hx hb hX hbl hbA hH.2 q1051 dL_law_1051 ?_
  refine lv_aload_n hx hb dL_law_1052 rfl (lv_at hl 0 rfl) ?_
  refine lv_iload_n hx hb dL_law_1053 rfl (lv_at hl 3 rfl) ?_
  refine lv_iconst (v := (3 : Int32)) hx hb dL_law_1054 (by decide) ?_
  refine lv_iadd hx hb dL_law_1055 ?_
  obtain ⟨q1056, h⟩ := h
  refine va_sld hx hb hX hbl hbA hH.2 q1056 dL_law_1056 ?_
  refine zcalli hH (va_runV (As := [.int (xs ((x3 + (1 : Int32))).toNatClampNeg), .int (xs ((x3 + (2 : Int32))).toNatClampNeg), .int (xs ((x3 + (3 : Int32))).toNatClampNeg)]) (rest := []) hF (kX5_breaks l G M N (xs ((x3 + (1 : Int32))).toNatClampNeg) (xs ((x3 + (2 : Int32))).toNatClampNeg) (xs ((x3 + (3 : Int32))).toNatClampNeg) _ h) (cwV 3 hts zgL_X5_breaks rfl rfl rfl ⟨rfl, zdX5_breaks⟩ ⟨Nat.le_of_ble_eq_true rfl, Nat.le_of_ble_eq_true rfl⟩) (zpreV hSt hH 0 (by decide) rfl (zE_0 _ _ _) (q := (RX5, TX5, 5)) rfl [.int (xs ((x3 + (1 : Int32))).toNatClampNeg), .int (xs ((x3 + (2 : Int32))).toNatClampNeg), .int (xs ((x3 + (3 : Int32))).toNatClampNeg)]) rfl rfl hl.1 rfl (lv_room (Nat.le_of_ble_eq_true rfl)) dL_law_1057 ⟨Nat.le_of_ble_eq_true rfl, Nat.le_of_ble_eq_true rfl⟩) (fun r1057 M1057 H locs h hH => ?_)
  refine lv_aload_n hx hb dL_law_1060 rfl (lv_at hl 2 rfl) ?_
  refine lv_aload_n hx hb dL_law_1061 rfl (lv_at hl 0 rfl) ?_
  refine lv_iload_n hx hb dL_law_1062 rfl (lv_at hl 3 rfl) ?_
  refine lv_iconst (v := (1 : Int32)) hx hb dL_law_1063 (by decide) ?_
  refine lv_iadd hx hb dL_law_1064 ?_
  obtain ⟨q1065, h⟩ := h
  refine va_sld hx hb hX hbl hbA hH.2 q1065 dL_law_1065 ?_
  refine lv_aload_n hx hb dL_law_1066 rfl (lv_at hl 0 rfl) ?_
  refine lv_iload_n hx hb dL_law_1067 rfl (lv_at hl 3 rfl) ?_
  refine lv_iconst (v := (2 : Int32)) hx hb dL_law_1068 (by decide) ?_
  refine lv_iadd hx hb dL_law_1069 ?_
  obtain ⟨q1070, h⟩ := h
  refine va_sld hx hb hX hbl hbA hH.2 q1070 dL_law_1070 ?_
  refine lv_aload_n hx hb dL_law_1071 rfl (lv_at hl 0 rfl) ?_
  refine lv_iload_n hx hb dL_law_1072 rfl (lv_at hl 3 rfl) ?_
  refine lv_iconst (v := (3 : Int32)) hx hb dL_law_1073 (by decide) ?_
  refine lv_iadd hx hb dL_law_1074 ?_
  obtain ⟨q1075, h⟩ := h
  refine va_sld hx hb hX hbl hbA hH.2 q1075 dL_law_1075 ?_
  have hH := zH_sw hH
  refine zcalli hH (va_runV (As := [.int (xs ((x3 + (1 : Int32))).toNatClampNeg), .int (xs ((x3 + (2 : Int32))).toNatClampNeg), .int (xs ((x3 + (3 : Int32))).toNatClampNeg)]) (rest := [.int r1057]) hF (kX6_breaks l G N M1057 (xs ((x3 + (1 : Int32))).toNatClampNeg) (xs ((x3 + (2 : Int32))).toNatClampNeg) (xs ((x3 + (3 : Int32))).toNatClampNeg) _ h) (cwV 3 hts zgL_X6_breaks rfl rfl rfl ⟨rfl, zdX6_breaks⟩ ⟨Nat.le_of_ble_eq_true rfl, Nat.le_of_ble_eq_true rfl⟩) (zpreV hSt hH 21 (by decide) rfl (zE_21 _ _ _) (q := (RX6, TX6, 31)) rfl [.int (xs ((x3 + (1 : Int32))).toNatClampNeg), .int (xs ((x3 + (2 : Int32))).toNatClampNeg), .int (xs ((x3 + (3 : Int32))).toNatClampNeg)]) rfl rfl hl.1 rfl (lv_room (Nat.le_of_ble_eq_true rfl)) dL_law_1076 ⟨Nat.le_of_ble_eq_true rfl, Nat.le_of_ble_eq_true rfl⟩) (fun r1076 N1076 H locs h hH => ?_)
  have hH := zH_ws hH
  refine lv_icmp_eq (tgt := 1107) hx hb dL_law_1079 (by decide) (fun q1079 => ?_) (fun q1079 => ?_)
  · have h := h.1 q1079
    exact wL_b1107 hF hSt hr hlocks hX hbl hbA hnew hag x3 M1057 N1076 H locs ls hH (lv_sub hl [0, 1, 2, 3] rfl) h
  · have h := h.2 q1079
    refine lv_iconst (v := (0 : Int32)) hx hb dL_law_1082 (by decide) ?_
    exact h.elim
def pL_b1084 (xs : Nat → Int32) (L : Nat) (ag : Int32 → zM → zM → Prop) (x3 : Int32) (M N : zM) : Prop :=
  vp_in (x3 + (1 : Int32)) L ∧ pX5_count M (xs ((x3 + (1 : Int32))).toNatClampNeg) (fun r1090 => vp_in (x3 + (1 : Int32)) L ∧ pX6_count N (xs ((x3 + (1 : Int32))).toNatClampNeg) (fun r1099 => (r1090 = r1099 → pL_b1107 ag x3 M N) ∧ (¬ (r1090 = r1099) → False)))
set_option maxHeartbeats 4000000 in
set_option maxRecDepth 100000 in
theorem wL_b1084 (hF : CallFix p m c cL_law 4 s #[Value.ref b] lw_tbl RL) (hSt : zSt G s) (hr : meth.sig.returnType = ret) (hlocks : meth.locks = false) (hX : va_X b L xs s s.heap) (hbl : b < s.heap.size) (hbA : ¬ zAA G b) (hnew : ∀ q, zAA G q → s.heap.size ≤ q) {ag : Int32 → zM → zM → Prop} (hag : ∀ (x3 : Int32) (M N : zM) (H : Heap) (locs : List Loc) (ls : Array Slot), ag x3 M N → zH G true s H locs M N → lv_has ls 4 [(0, .ref b), (1, .ref (G.1 0)), (2, .ref (G.1 21)), (3, .int x3)] → W p l e room_1 s m #[Value.ref b] below meth c H locs 43 4721 (lw_Z below #[Value.ref b] s) (F0 m 18 ls [])) (x3 : Int32) (M N : zM) (H : Heap) (locs : List Loc) (ls : Array Slot) (hH : zH G true s H locs M N) (hl : lv_has ls 4 [(0, .ref b), (1, .ref (G.1 0)), (2, .ref (G.1 21)), (3, .int x3)]) (h : pL_b1084 xs L ag x3 M N) : W p l e room_1 s m #[Value.ref b] below meth c H locs 43 4721 (lw_Z below #[Value.ref b] s) (F0 m 1084 ls []) := by
  obtain ⟨hx, hb, hml, hown, hts⟩ := id hF
  unfold pL_b1084 at h
  refine lv_aload_n hx hb dL_law_1084 rfl (lv_at hl 1 rfl) ?_
  refine lv_aload_n hx hb dL_law_1085 rfl (lv_at hl 0 rfl) ?_
  refine lv_iload_n hx hb dL_law_1086 rfl (lv_at hl 3 rfl) ?_
  refine lv_iconst (v := (1 : Int32)) hx hb dL_law_1087 (by decide) ?_
  refine lv_iadd hx hb dL_law_1088 ?_
  obtain ⟨q1089, h⟩ := h
  refine va_sld hx hb hX hbl hbA hH.2 q1089 dL_law_1089 ?_
  refine zcalliP hH (va_runV (As := [.int (xs ((x3 + (1 : Int32))).toNatClampNeg)]) (rest := []) hF (kX5_count l G M N (xs ((x3 + (1 : Int32))).toNatClampNeg) _ h) (cwV 1 hts zgL_X5_count rfl rfl rfl ⟨rfl, zdX5_count⟩ ⟨Nat.le_of_ble_eq_true rfl, Nat.le_of_ble_eq_true rfl⟩) (zpreV hSt hH 0 (by decide) rfl (zE_0 _ _ _) (q := (RX5, TX5, 5)) rfl [.int (xs ((x3 + (1 : Int32))).toNatClampNeg)]) rfl rfl hl.1 rfl (lv_room (Nat.le_of_ble_eq_true rfl)) dL_law_1090 ⟨Nat.le_of_ble_eq_true rfl, Nat.le_of_ble_eq_true rfl⟩) (fun r1090 H locs h hH => ?_)
  refine lv_aload_n hx hb dL_law_1093 rfl (lv_at hl 2 rfl) ?_
  refine lv_aload_n hx hb dL_law_1094 rfl (lv_at hl 0 rfl) ?_
  refine lv_iload_n hx hb dL_law_1095 rfl (lv_at hl 3 rfl) ?_
  refine lv_iconst (v := (1 : Int32)) hx hb dL_law_1096 (by decide) ?_
  refine lv_iadd hx hb dL_law_1097 ?_
  obtain ⟨q1098, h⟩ := h
  refine va_sld hx hb hX hbl hbA hH.2 q1098 dL_law_1098 ?_
  have hH := zH_sw hH
  refine zcalliP hH (va_runV (As := [.int (xs ((x3 + (1 : Int32))).toNatClampNeg)]) (rest := [.int r1090]) hF (kX6_count l G N M (xs ((x3 + (1 : Int32))).toNatClampNeg) _ h) (cwV 1 hts zgL_X6_count rfl rfl rfl ⟨rfl, zdX6_count⟩ ⟨Nat.le_of_ble_eq_true rfl, Nat.le_of_ble_eq_true rfl⟩) (zpreV hSt hH 21 (by decide) rfl (zE_21 _ _ _) (q := (RX6, TX6, 31)) rfl [.int (xs ((x3 + (1 : Int32))).toNatClampNeg)]) rfl rfl hl.1 rfl (lv_room (Nat.le_of_ble_eq_true rfl)) dL_law_1099 ⟨Nat.le_of_ble_eq_true rfl, Nat.le_of_ble_eq_true rfl⟩) (fun r1099 H locs h hH => ?_)
  have hH := zH_ws hH
  refine lv_icmp_eq (tgt := 1107) hx hb dL_law_1102 (by decide) (fun q1102 => ?_) (fun q1102 => ?_)
  · have h := h.1 q1102
    exact wL_b1107 hF hSt hr hlocks hX hbl hbA hnew hag x3 M N H locs ls hH (lv_sub hl [0, 1, 2, 3] rfl) h
  · have h := h.2 q1102
    refine lv_iconst (v := (0 : Int32)) hx hb dL_law_1105 (by decide) ?_
    exact h.elim
def pL_b18 (xs : Nat → Int32) (L : Nat) (ag : Int32 → zM → zM → Prop) (x3 : Int32) (M N : zM) : Prop :=
  (((Int32.ofNat L) - (4 : Int32)) < x3 → True) ∧ (¬ (((Int32.ofNat L) - (4 : Int32)) < x3) → vp_in x3 L ∧ (((xs (x3).toNatClampNeg) &&& (31 : Int32)) = (0 : Int32) → pL_b172 xs L ag x3 M N) ∧ (((xs (x3).toNatClampNeg) &&& (31 : Int32)) = (1 : Int32) → pL_b185 xs L ag x3 M N) ∧ (((xs (x3).toNatClampNeg) &&& (31 : Int32)) = (2 : Int32) → pL_b218 xs L ag x3 M N) ∧ (((xs (x3).toNatClampNeg) &&& (31 : Int32)) = (3 : Int32) → pL_b241 xs L ag x3 M N) ∧ (((xs (x3).toNatClampNeg) &&& (31 : Int32)) = (4 : Int32) → pL_b304 xs L ag x3 M N) ∧ (((xs (x3).toNatClampNeg) &&& (31 : Int32)) = (5 : Int32) → pL_b337 xs L ag x3 M N) ∧ (((xs (x3).toNatClampNeg) &&& (31 : Int32)) = (6 : Int32) → pL_b380 xs L ag x3 M N) ∧ (((xs (x3).toNatClampNeg) &&& (31 : Int32)) = (7 : Int32) → pL_b413 xs L ag x3 M N) ∧ (((xs (x3).toNatClampNeg) &&& (31 : Int32)) = (8 : Int32) → pL_b446 xs L ag x3 M N) ∧ (((xs (x3).toNatClampNeg) &&& (31 : Int32)) = (9 : Int32) → pL_b509 xs L ag x3 M N) ∧ (((xs (x3).toNatClampNeg) &&& (31 : Int32)) = (10 : Int32) → pL_b542 xs L ag x3 M N) ∧ (((xs (x3).toNatClampNeg) &&& (31 : Int32)) = (11 : Int32) → pL_b575 xs L ag x3 M N) ∧ (((xs (x3).toNatClampNeg) &&& (31 : Int32)) = (12 : Int32) → pL_b598 xs L ag x3 M N) ∧ (((xs (x3).toNatClampNeg) &&& (31 : Int32)) = (13 : Int32) → pL_b621 xs L ag x3 M N) ∧ (((xs (x3).toNatClampNeg) &&& (31 : Int32)) = (14 : Int32) → pL_b654 xs L ag x3 M N) ∧ (((xs (x3).toNatClampNeg) &&& (31 : Int32)) = (15 : Int32) → pL_b667 xs L ag x3 M N) ∧ (((xs (x3).toNatClampNeg) &&& (31 : Int32)) = (16 : Int32) → pL_b700 xs L ag x3 M N) ∧ (((xs (x3).toNatClampNeg) &&& (31 : Int32)) = (17 : Int32) → pL_b724 xs L ag x3 M N) ∧ (((xs (x3).toNatClampNeg) &&& (31 : Int32)) = (18 : Int32) → pL_b747 xs L ag x3 M N) ∧ (((xs (x3).toNatClampNeg) &&& (31 : Int32)) = (19 : Int32) → pL_b780 xs L ag x3 M N) ∧ (((xs (x3).toNatClampNeg) &&& (31 : Int32)) = (20 : Int32) → pL_b813 xs L ag x3 M N) ∧ (((xs (x3).toNatClampNeg) &&& (31 : Int32)) = (21 : Int32) → pL_b856 xs L ag x3 M N) ∧ (((xs (x3).toNatClampNeg) &&& (31 : Int32)) = (22 : Int32) → pL_b890 xs L ag x3 M N) ∧ (((xs (x3).toNatClampNeg) &&& (31 : Int32)) = (23 : Int32) → pL_b933 xs L ag x3 M N) ∧ (((xs (x3).toNatClampNeg) &&& (31 : Int32)) = (24 : Int32) → pL_b946 xs L ag x3 M N) ∧ (((xs (x3).toNatClampNeg) &&& (31 : Int32)) = (25 : Int32) → pL_b959 xs L ag x3 M N) ∧ (((xs (x3).toNatClampNeg) &&& (31 : Int32)) = (26 : Int32) → pL_b982 xs L ag x3 M N) ∧ (((xs (x3).toNatClampNeg) &&& (31 : Int32)) = (27 : Int32) → pL_b995 xs L ag x3 M N) ∧ (((xs (x3).toNatClampNeg) &&& (31 : Int32)) = (28 : Int32) → pL_b1008 xs L ag x3 M N) ∧ (((xs (x3).toNatClampNeg) &&& (31 : Int32)) = (29 : Int32) → pL_b1041 xs L ag x3 M N) ∧ (((xs (x3).toNatClampNeg) &&& (31 : Int32)) = (30 : Int32) → pL_b1084 xs L ag x3 M N) ∧ (¬ (((xs (x3).toNatClampNeg) &&& (31 : Int32)) = (0 : Int32)) → ¬ (((xs (x3).toNatClampNeg) &&& (31 : Int32)) = (1 : Int32)) → ¬ (((xs (x3).toNatClampNeg) &&& (31 : Int32)) = (2 : Int32)) → ¬ (((xs (x3).toNatClampNeg) &&& (31 : Int32)) = (3 : Int32)) → ¬ (((xs (x3).toNatClampNeg) &&& (31 : Int32)) = (4 : Int32)) → ¬ (((xs (x3).toNatClampNeg) &&& (31 : Int32)) = (5 : Int32)) → ¬ (((xs (x3).toNatClampNeg) &&& (31 : Int32)) = (6 : Int32)) → ¬ (((xs (x3).toNatClampNeg) &&& (31 : Int32)) = (7 : Int32)) → ¬ (((xs (x3).toNatClampNeg) &&& (31 : Int32)) = (8 : Int32)) → ¬ (((xs (x3).toNatClampNeg) &&& (31 : Int32)) = (9 : Int32)) → ¬ (((xs (x3).toNatClampNeg) &&& (31 : Int32)) = (10 : Int32)) → ¬ (((xs (x3).toNatClampNeg) &&& (31 : Int32)) = (11 : Int32)) → ¬ (((xs (x3).toNatClampNeg) &&& (31 : Int32)) = (12 : Int32)) → ¬ (((xs (x3).toNatClampNeg) &&& (31 : Int32)) = (13 : Int32)) → ¬ (((xs (x3).toNatClampNeg) &&& (31 : Int32)) = (14 : Int32)) → ¬ (((xs (x3).toNatClampNeg) &&& (31 : Int32)) = (15 : Int32)) → ¬ (((xs (x3).toNatClampNeg) &&& (31 : Int32)) = (16 : Int32)) → ¬ (((xs (x3).toNatClampNeg) &&& (31 : Int32)) = (17 : Int32)) → ¬ (((xs (x3).toNatClampNeg) &&& (31 : Int32)) = (18 : Int32)) → ¬ (((xs (x3).toNatClampNeg) &&& (31 : Int32)) = (19 : Int32)) → ¬ (((xs (x3).toNatClampNeg) &&& (31 : Int32)) = (20 : Int32)) → ¬ (((xs (x3).toNatClampNeg) &&& (31 : Int32)) = (21 : Int32)) → ¬ (((xs (x3).toNatClampNeg) &&& (31 : Int32)) = (22 : Int32)) → ¬ (((xs (x3).toNatClampNeg) &&& (31 : Int32)) = (23 : Int32)) → ¬ (((xs (x3).toNatClampNeg) &&& (31 : Int32)) = (24 : Int32)) → ¬ (((xs (x3).toNatClampNeg) &&& (31 : Int32)) = (25 : Int32)) → ¬ (((xs (x3).toNatClampNeg) &&& (31 : Int32)) = (26 : Int32)) → ¬ (((xs (x3).toNatClampNeg) &&& (31 : Int32)) = (27 : Int32)) → ¬ (((xs (x3).toNatClampNeg) &&& (31 : Int32)) = (28 : Int32)) → ¬ (((xs (x3).toNatClampNeg) &&& (31 : Int32)) = (29 : Int32)) → ¬ (((xs (x3).toNatClampNeg) &&& (31 : Int32)) = (30 : Int32)) → pL_b1107 ag x3 M N))
set_option maxHeartbeats 4000000 in
set_option maxRecDepth 100000 in
theorem wL_b18 (hF : CallFix p m c cL_law 4 s #[Value.ref b] lw_tbl RL) (hSt : zSt G s) (hr : meth.sig.returnType = ret) (hlocks : meth.locks = false) (hX : va_X b L xs s s.heap) (hbl : b < s.heap.size) (hbA : ¬ zAA G b) (hnew : ∀ q, zAA G q → s.heap.size ≤ q) {ag : Int32 → zM → zM → Prop} (hag : ∀ (x3 : Int32) (M N : zM) (H : Heap) (locs : List Loc) (ls : Array Slot), ag x3 M N → zH G true s H locs M N → lv_has ls 4 [(0, .ref b), (1, .ref (G.1 0)), (2, .ref (G.1 21)), (3, .int x3)] → W p l e room_1 s m #[Value.ref b] below meth c H locs 43 4721 (lw_Z below #[Value.ref b] s) (F0 m 18 ls [])) (x3 : Int32) (M N : zM) (H : Heap) (locs : List Loc) (ls : Array Slot) (hH : zH G true s H locs M N) (hl : lv_has ls 4 [(0, .ref b), (1, .ref (G.1 0)), (2, .ref (G.1 21)), (3, .int x3)]) (h : pL_b18 xs L ag x3 M N) : W p l e room_1 s m #[Value.ref b] below meth c H locs 43 4721 (lw_Z below #[Value.ref b] s) (F0 m 18 ls []) := by
  obtain ⟨hx, hb, hml, hown, hts⟩ := id hF
  unfold pL_b18 at h
  refine lv_iload_n hx hb dL_law_18 rfl (lv_at hl 3 rfl) ?_
  refine lv_aload_n hx hb dL_law_19 rfl (lv_at hl 0 rfl) ?_
  refine va_slen hx hb hX hbl hbA hH.2 dL_law_20 ?_
  refine lv_iconst (v := (4 : Int32)) hx hb dL_law_21 (by decide) ?_
  refine lv_isub hx hb dL_law_22 ?_
  refine lv_icmp_gt (tgt := 1113) hx hb dL_law_23 (by decide) (fun q23 => ?_) (fun q23 => ?_)
  · have h := h.1 q23
    refine lv_iconst (v := (1 : Int32)) hx hb dL_law_1113 (by decide) ?_
    refine va_forget (fun q hq => hnew _ (hH.2.2.2 q hq)) ?_
    exact lw_ret hx hb hr hlocks dL_law_1114
  · have h := h.2 q23
    refine lv_aload_n hx hb dL_law_26 rfl (lv_at hl 0 rfl) ?_
    refine lv_iload_n hx hb dL_law_27 rfl (lv_at hl 3 rfl) ?_
    obtain ⟨q28, h⟩ := h
    refine va_sld hx hb hX hbl hbA hH.2 q28 dL_law_28 ?_
    refine lv_bipush (v := (31 : Int32)) hx hb dL_law_29 (by decide) ?_
    refine lv_iand hx hb dL_law_31 ?_
    by_cases q32_0 : ((xs (x3).toNatClampNeg) &&& (31 : Int32)) = (0 : Int32)
    · have h := h.1 q32_0
      refine lv_tableIn (off := 140) (tgt := 172) hx hb dL_law_32 (by rw [q32_0]; decide) (by rw [q32_0]; decide) (by rw [q32_0]; decide) (by decide) ?_
      exact wL_b172 hF hSt hr hlocks hX hbl hbA hnew hag x3 M N H locs ls hH (lv_sub hl [0, 1, 2, 3] rfl) h
    · have h := h.2
      by_cases q32_1 : ((xs (x3).toNatClampNeg) &&& (31 : Int32)) = (1 : Int32)
      · have h := h.1 q32_1
        refine lv_tableIn (off := 153) (tgt := 185) hx hb dL_law_32 (by rw [q32_1]; decide) (by rw [q32_1]; decide) (by rw [q32_1]; decide) (by decide) ?_
        exact wL_b185 hF hSt hr hlocks hX hbl hbA hnew hag x3 M N H locs ls hH (lv_sub hl [0, 1, 2, 3] rfl) h
      · have h := h.2
        by_cases q32_2 : ((xs (x3).toNatClampNeg) &&& (31 : Int32)) = (2 : Int32)
        · have h := h.1 q32_2
          refine lv_tableIn (off := 186) (tgt := 218) hx hb dL_law_32 (by rw [q32_2]; decide) (by rw [q32_2]; decide) (by rw [q32_2]; decide) (by decide) ?_
          exact wL_b218 hF hSt hr hlocks hX hbl hbA hnew hag x3 M N H locs ls hH (lv_sub hl [0, 1, 2, 3] rfl) h
        · have h := h.2
          by_cases q32_3 : ((xs (x3).toNatClampNeg) &&& (31 : Int32)) = (3 : Int32)
          · have h := h.1 q32_3
            refine lv_tableIn (off := 209) (tgt := 241) hx hb dL_law_32 (by rw [q32_3]; decide) (by rw [q32_3]; decide) (by rw [q32_3]; decide) (by decide) ?_
            exact wL_b241 hF hSt hr hlocks hX hbl hbA hnew hag x3 M N H locs ls hH (lv_sub hl [0, 1, 2, 3] rfl) h
          · have h := h.2
            by_cases q32_4 : ((xs (x3).toNatClampNeg) &&& (31 : Int32)) = (4 : Int32)
            · have h := h.1 q32_4
              refine lv_tableIn (off := 272) (tgt := 304) hx hb dL_law_32 (by rw [q32_4]; decide) (by rw [q32_4]; decide) (by rw [q32_4]; decide) (by decide) ?_
              exact wL_b304 hF hSt hr hlocks hX hbl hbA hnew hag x3 M N H locs ls hH (lv_sub hl [0, 1, 2, 3] rfl) h
            · have h := h.2
              by_cases q32_5 : ((xs (x3).toNatClampNeg) &&& (31 : Int32)) = (5 : Int32)
              · have h := h.1 q32_5
                refine lv_tableIn (off := 305) (tgt := 337) hx hb dL_law_32 (by rw [q32_5]; decide) (by rw [q32_5]; decide) (by rw [q32_5]; decide) (by decide) ?_
                exact wL_b337 hF hSt hr hlocks hX hbl hbA hnew hag x3 M N H locs ls hH (lv_sub hl [0, 1, 2, 3] rfl) h
              · have h := h.2
                by_cases q32_6 : ((xs (x3).toNatClampNeg) &&& (31 : Int32)) = (6 : Int32)
                · have h := h.1 q32_6
                  refine lv_tableIn (off := 348) (tgt := 380) hx hb dL_law_32 (by rw [q32_6]; decide) (by rw [q32_6]; decide) (by rw [q32_6]; decide) (by decide) ?_
                  exact wL_b380 hF hSt hr hlocks hX hbl hbA hnew hag x3 M N H locs ls hH (lv_sub hl [0, 1, 2, 3] rfl) h
                · have h := h.2
                  by_cases q32_7 : ((xs (x3).toNatClampNeg) &&& (31 : Int32)) = (7 : Int32)
                  · have h := h.1 q32_7
                    refine lv_tableIn (off := 381) (tgt := 413) hx hb dL_law_32 (by rw [q32_7]; decide) (by rw [q32_7]; decide) (by rw [q32_7]; decide) (by decide) ?_
                    exact wL_b413 hF hSt hr hlocks hX hbl hbA hnew hag x3 M N H locs ls hH (lv_sub hl [0, 1, 2, 3] rfl) h
                  · have h := h.2
                    by_cases q32_8 : ((xs (x3).toNatClampNeg) &&& (31 : Int32)) = (8 : Int32)
                    · have h := h.1 q32_8
                      refine lv_tableIn (off := 414) (tgt := 446) hx hb dL_law_32 (by rw [q32_8]; decide) (by rw [q32_8]; decide) (by rw [q32_8]; decide) (by decide) ?_
                      exact wL_b446 hF hSt hr hlocks hX hbl hbA hnew hag x3 M N H locs ls hH (lv_sub hl [0, 1, 2, 3] rfl) h
                    · have h := h.2
                      by_cases q32_9 : ((xs (x3).toNatClampNeg) &&& (31 : Int32)) = (9 : Int32)
                      · have h := h.1 q32_9
                        refine lv_tableIn (off := 477) (tgt := 509) hx hb dL_law_32 (by rw [q32_9]; decide) (by rw [q32_9]; decide) (by rw [q32_9]; decide) (by decide) ?_
                        exact wL_b509 hF hSt hr hlocks hX hbl hbA hnew hag x3 M N H locs ls hH (lv_sub hl [0, 1, 2, 3] rfl) h
                      · have h := h.2
                        by_cases q32_10 : ((xs (x3).toNatClampNeg) &&& (31 : Int32)) = (10 : Int32)
                        · have h := h.1 q32_10
                          refine lv_tableIn (off := 510) (tgt := 542) hx hb dL_law_32 (by rw [q32_10]; decide) (by rw [q32_10]; decide) (by rw [q32_10]; decide) (by decide) ?_
                          exact wL_b542 hF hSt hr hlocks hX hbl hbA hnew hag x3 M N H locs ls hH (lv_sub hl [0, 1, 2, 3] rfl) h
                        · have h := h.2
                          by_cases q32_11 : ((xs (x3).toNatClampNeg) &&& (31 : Int32)) = (11 : Int32)
                          · have h := h.1 q32_11
                            refine lv_tableIn (off := 543) (tgt := 575) hx hb dL_law_32 (by rw [q32_11]; decide) (by rw [q32_11]; decide) (by rw [q32_11]; decide) (by decide) ?_
                            exact wL_b575 hF hSt hr hlocks hX hbl hbA hnew hag x3 M N H locs ls hH (lv_sub hl [0, 1, 2, 3] rfl) h
                          · have h := h.2
                            by_cases q32_12 : ((xs (x3).toNatClampNeg) &&& (31 : Int32)) = (12 : Int32)
                            · have h := h.1 q32_12
                              refine lv_tableIn (off := 566) (tgt := 598) hx hb dL_law_32 (by rw [q32_12]; decide) (by rw [q32_12]; decide) (by rw [q32_12]; decide) (by decide) ?_
                              exact wL_b598 hF hSt hr hlocks hX hbl hbA hnew hag x3 M N H locs ls hH (lv_sub hl [0, 1, 2, 3] rfl) h
                            · have h := h.2
                              by_cases q32_13 : ((xs (x3).toNatClampNeg) &&& (31 : Int32)) = (13 : Int32)
                              · have h := h.1 q32_13
                                refine lv_tableIn (off := 589) (tgt := 621) hx hb dL_law_32 (by rw [q32_13]; decide) (by rw [q32_13]; decide) (by rw [q32_13]; decide) (by decide) ?_
                                exact wL_b621 hF hSt hr hlocks hX hbl hbA hnew hag x3 M N H locs ls hH (lv_sub hl [0, 1, 2, 3] rfl) h
                              · have h := h.2
                                by_cases q32_14 : ((xs (x3).toNatClampNeg) &&& (31 : Int32)) = (14 : Int32)
                                · have h := h.1 q32_14
                                  refine lv_tableIn (off := 622) (tgt := 654) hx hb dL_law_32 (by rw [q32_14]; decide) (by rw [q32_14]; decide) (by rw [q32_14]; decide) (by decide) ?_
                                  exact wL_b654 hF hSt hr hlocks hX hbl hbA hnew hag x3 M N H locs ls hH (lv_sub hl [0, 1, 2, 3] rfl) h
                                · have h := h.2
                                  by_cases q32_15 : ((xs (x3).toNatClampNeg) &&& (31 : Int32)) = (15 : Int32)
                                  · have h := h.1 q32_15
                                    refine lv_tableIn (off := 635) (tgt := 667) hx hb dL_law_32 (by rw [q32_15]; decide) (by rw [q32_15]; decide) (by rw [q32_15]; decide) (by decide) ?_
                                    exact wL_b667 hF hSt hr hlocks hX hbl hbA hnew hag x3 M N H locs ls hH (lv_sub hl [0, 1, 2, 3] rfl) h
                                  · have h := h.2
                                    by_cases q32_16 : ((xs (x3).toNatClampNeg) &&& (31 : Int32)) = (16 : Int32)
                                    · have h := h.1 q32_16
                                      refine lv_tableIn (off := 668) (tgt := 700) hx hb dL_law_32 (by rw [q32_16]; decide) (by rw [q32_16]; decide) (by rw [q32_16]; decide) (by decide) ?_
                                      exact wL_b700 hF hSt hr hlocks hX hbl hbA hnew hag x3 M N H locs ls hH (lv_sub hl [0, 1, 2, 3] rfl) h
                                    · have h := h.2
                                      by_cases q32_17 : ((xs (x3).toNatClampNeg) &&& (31 : Int32)) = (17 : Int32)
                                      · have h := h.1 q32_17
                                        refine lv_tableIn (off := 692) (tgt := 724) hx hb dL_law_32 (by rw [q32_17]; decide) (by rw [q32_17]; decide) (by rw [q32_17]; decide) (by decide) ?_
                                        exact wL_b724 hF hSt hr hlocks hX hbl hbA hnew hag x3 M N H locs ls hH (lv_sub hl [0, 1, 2, 3] rfl) h
                                      · have h := h.2
                                        by_cases q32_18 : ((xs (x3).toNatClampNeg) &&& (31 : Int32)) = (18 : Int32)
                                        · have h := h.1 q32_18
                                          refine lv_tableIn (off := 715) (tgt := 747) hx hb dL_law_32 (by rw [q32_18]; decide) (by rw [q32_18]; decide) (by rw [q32_18]; decide) (by decide) ?_
                                          exact wL_b747 hF hSt hr hlocks hX hbl hbA hnew hag x3 M N H locs ls hH (lv_sub hl [0, 1, 2, 3] rfl) h
                                        · have h := h.2
                                          by_cases q32_19 : ((xs (x3).toNatClampNeg) &&& (31 : Int32)) = (19 : Int32)
                                          · have h := h.1 q32_19
                                            refine lv_tableIn (off := 748) (tgt := 780) hx hb dL_law_32 (by rw [q32_19]; decide) (by rw [q32_19]; decide) (by rw [q32_19]; decide) (by decide) ?_
                                            exact wL_b780 hF hSt hr hlocks hX hbl hbA hnew hag x3 M N H locs ls hH (lv_sub hl [0, 1, 2, 3] rfl) h
                                          · have h := h.2
                                            by_cases q32_20 : ((xs (x3).toNatClampNeg) &&& (31 : Int32)) = (20 : Int32)
                                            · have h := h.1 q32_20
                                              refine lv_tableIn (off := 781) (tgt := 813) hx hb dL_law_32 (by rw [q32_20]; decide) (by rw [q32_20]; decide) (by rw [q32_20]; decide) (by decide) ?_
                                              exact wL_b813 hF hSt hr hlocks hX hbl hbA hnew hag x3 M N H locs ls hH (lv_sub hl [0, 1, 2, 3] rfl) h
                                            · have h := h.2
                                              by_cases q32_21 : ((xs (x3).toNatClampNeg) &&& (31 : Int32)) = (21 : Int32)
                                              · have h := h.1 q32_21
                                                refine lv_tableIn (off := 824) (tgt := 856) hx hb dL_law_32 (by rw [q32_21]; decide) (by rw [q32_21]; decide) (by rw [q32_21]; decide) (by decide) ?_
                                                exact wL_b856 hF hSt hr hlocks hX hbl hbA hnew hag x3 M N H locs ls hH (lv_sub hl [0, 1, 2, 3] rfl) h
                                              · have h := h.2
                                                by_cases q32_22 : ((xs (x3).toNatClampNeg) &&& (31 : Int32)) = (22 : Int32)
                                                · have h := h.1 q32_22
                                                  refine lv_tableIn (off := 858) (tgt := 890) hx hb dL_law_32 (by rw [q32_22]; decide) (by rw [q32_22]; decide) (by rw [q32_22]; decide) (by decide) ?_
                                                  exact wL_b890 hF hSt hr hlocks hX hbl hbA hnew hag x3 M N H locs ls hH (lv_sub hl [0, 1, 2, 3] rfl) h
                                                · have h := h.2
                                                  by_cases q32_23 : ((xs (x3).toNatClampNeg) &&& (31 : Int32)) = (23 : Int32)
                                                  · have h := h.1 q32_23
                                                    refine lv_tableIn (off := 901) (tgt := 933) hx hb dL_law_32 (by rw [q32_23]; decide) (by rw [q32_23]; decide) (by rw [q32_23]; decide) (by decide) ?_
                                                    exact wL_b933 hF hSt hr hlocks hX hbl hbA hnew hag x3 M N H locs ls hH (lv_sub hl [0, 1, 2, 3] rfl) h
                                                  · have h := h.2
                                                    by_cases q32_24 : ((xs (x3).toNatClampNeg) &&& (31 : Int32)) = (24 : Int32)
                                                    · have h := h.1 q32_24
                                                      refine lv_tableIn (off := 914) (tgt := 946) hx hb dL_law_32 (by rw [q32_24]; decide) (by rw [q32_24]; decide) (by rw [q32_24]; decide) (by decide) ?_
                                                      exact wL_b946 hF hSt hr hlocks hX hbl hbA hnew hag x3 M N H locs ls hH (lv_sub hl [0, 1, 2, 3] rfl) h
                                                    · have h := h.2
                                                      by_cases q32_25 : ((xs (x3).toNatClampNeg) &&& (31 : Int32)) = (25 : Int32)
                                                      · have h := h.1 q32_25
                                                        refine lv_tableIn (off := 927) (tgt := 959) hx hb dL_law_32 (by rw [q32_25]; decide) (by rw [q32_25]; decide) (by rw [q32_25]; decide) (by decide) ?_
                                                        exact wL_b959 hF hSt hr hlocks hX hbl hbA hnew hag x3 M N H locs ls hH (lv_sub hl [0, 1, 2, 3] rfl) h
                                                      · have h := h.2
                                                        by_cases q32_26 : ((xs (x3).toNatClampNeg) &&& (31 : Int32)) = (26 : Int32)
                                                        · have h := h.1 q32_26
                                                          refine lv_tableIn (off := 950) (tgt := 982) hx hb dL_law_32 (by rw [q32_26]; decide) (by rw [q32_26]; decide) (by rw [q32_26]; decide) (by decide) ?_
                                                          exact wL_b982 hF hSt hr hlocks hX hbl hbA hnew hag x3 M N H locs ls hH (lv_sub hl [0, 1, 2, 3] rfl) h
                                                        · have h := h.2
                                                          by_cases q32_27 : ((xs (x3).toNatClampNeg) &&& (31 : Int32)) = (27 : Int32)
                                                          · have h := h.1 q32_27
                                                            refine lv_tableIn (off := 963) (tgt := 995) hx hb dL_law_32 (by rw [q32_27]; decide) (by rw [q32_27]; decide) (by rw [q32_27]; decide) (by decide) ?_
                                                            exact wL_b995 hF hSt hr hlocks hX hbl hbA hnew hag x3 M N H locs ls hH (lv_sub hl [0, 1, 2, 3] rfl) h
                                                          · have h := h.2
                                                            by_cases q32_28 : ((xs (x3).toNatClampNeg) &&& (31 : Int32)) = (28 : Int32)
                                                            · have h := h.1 q32_28
                                                              refine lv_tableIn (off := 976) (tgt := 1008) hx hb dL_law_32 (by rw [q32_28]; decide) (by rw [q32_28]; decide) (by rw [q32_28]; decide) (by decide) ?_
                                                              exact wL_b1008 hF hSt hr hlocks hX hbl hbA hnew hag x3 M N H locs ls hH (lv_sub hl [0, 1, 2, 3] rfl) h
                                                            · have h := h.2
                                                              by_cases q32_29 : ((xs (x3).toNatClampNeg) &&& (31 : Int32)) = (29 : Int32)
                                                              · have h := h.1 q32_29
                                                                refine lv_tableIn (off := 1009) (tgt := 1041) hx hb dL_law_32 (by rw [q32_29]; decide) (by rw [q32_29]; decide) (by rw [q32_29]; decide) (by decide) ?_
                                                                exact wL_b1041 hF hSt hr hlocks hX hbl hbA hnew hag x3 M N H locs ls hH (lv_sub hl [0, 1, 2, 3] rfl) h
                                                              · have h := h.2
                                                                by_cases q32_30 : ((xs (x3).toNatClampNeg) &&& (31 : Int32)) = (30 : Int32)
                                                                · have h := h.1 q32_30
                                                                  refine lv_tableIn (off := 1052) (tgt := 1084) hx hb dL_law_32 (by rw [q32_30]; decide) (by rw [q32_30]; decide) (by rw [q32_30]; decide) (by decide) ?_
                                                                  exact wL_b1084 hF hSt hr hlocks hX hbl hbA hnew hag x3 M N H locs ls hH (lv_sub hl [0, 1, 2, 3] rfl) h
                                                                · have h := h.2
                                                                  have h := h q32_0 q32_1 q32_2 q32_3 q32_4 q32_5 q32_6 q32_7 q32_8 q32_9 q32_10 q32_11 q32_12 q32_13 q32_14 q32_15 q32_16 q32_17 q32_18 q32_19 q32_20 q32_21 q32_22 q32_23 q32_24 q32_25 q32_26 q32_27 q32_28 q32_29 q32_30
                                                                  refine lv_tableOut (tgt := 1107) hx hb dL_law_32 (by have n0 := lv_neT q32_0 (a := 0) (by decide); have n1 := lv_neT q32_1 (a := 1) (by decide); have n2 := lv_neT q32_2 (a := 2) (by decide); have n3 := lv_neT q32_3 (a := 3) (by decide); have n4 := lv_neT q32_4 (a := 4) (by decide); have n5 := lv_neT q32_5 (a := 5) (by decide); have n6 := lv_neT q32_6 (a := 6) (by decide); have n7 := lv_neT q32_7 (a := 7) (by decide); have n8 := lv_neT q32_8 (a := 8) (by decide); have n9 := lv_neT q32_9 (a := 9) (by decide); have n10 := lv_neT q32_10 (a := 10) (by decide); have n11 := lv_neT q32_11 (a := 11) (by decide); have n12 := lv_neT q32_12 (a := 12) (by decide); have n13 := lv_neT q32_13 (a := 13) (by decide); have n14 := lv_neT q32_14 (a := 14) (by decide); have n15 := lv_neT q32_15 (a := 15) (by decide); have n16 := lv_neT q32_16 (a := 16) (by decide); have n17 := lv_neT q32_17 (a := 17) (by decide); have n18 := lv_neT q32_18 (a := 18) (by decide); have n19 := lv_neT q32_19 (a := 19) (by decide); have n20 := lv_neT q32_20 (a := 20) (by decide); have n21 := lv_neT q32_21 (a := 21) (by decide); have n22 := lv_neT q32_22 (a := 22) (by decide); have n23 := lv_neT q32_23 (a := 23) (by decide); have n24 := lv_neT q32_24 (a := 24) (by decide); have n25 := lv_neT q32_25 (a := 25) (by decide); have n26 := lv_neT q32_26 (a := 26) (by decide); have n27 := lv_neT q32_27 (a := 27) (by decide); have n28 := lv_neT q32_28 (a := 28) (by decide); have n29 := lv_neT q32_29 (a := 29) (by decide); have n30 := lv_neT q32_30 (a := 30) (by decide); omega) (by decide) ?_
                                                                  exact wL_b1107 hF hSt hr hlocks hX hbl hbA hnew hag x3 M N H locs ls hH (lv_sub hl [0, 1, 2, 3] rfl) h
def pL_L18 (xs : Nat → Int32) (L : Nat) (x3 : Int32) (M N : zM) : Prop :=
  ∃ I : Nat → Int32 → zM → zM → Prop, (∃ n, I n x3 M N) ∧ ∀ n x3 M N, I n x3 M N → pL_b18 xs L (fun x3 M N => ∃ k, k < n ∧ I k x3 M N) x3 M N
theorem wL_L18 (hF : CallFix p m c cL_law 4 s #[Value.ref b] lw_tbl RL) (hSt : zSt G s) (hr : meth.sig.returnType = ret) (hlocks : meth.locks = false) (hX : va_X b L xs s s.heap) (hbl : b < s.heap.size) (hbA : ¬ zAA G b) (hnew : ∀ q, zAA G q → s.heap.size ≤ q) (x3 : Int32) (M N : zM) (H : Heap) (locs : List Loc) (ls : Array Slot) (hH : zH G true s H locs M N) (hl : lv_has ls 4 [(0, .ref b), (1, .ref (G.1 0)), (2, .ref (G.1 21)), (3, .int x3)]) (h : pL_L18 xs L x3 M N) : W p l e room_1 s m #[Value.ref b] below meth c H locs 43 4721 (lw_Z below #[Value.ref b] s) (F0 m 18 ls []) := by
  obtain ⟨I, ⟨n, hI⟩, hs⟩ := h
  have key : ∀ (n : Nat) (x3 : Int32) (M N : zM) (H : Heap) (locs : List Loc) (ls : Array Slot), I n x3 M N → zH G true s H locs M N → lv_has ls 4 [(0, .ref b), (1, .ref (G.1 0)), (2, .ref (G.1 21)), (3, .int x3)] → W p l e room_1 s m #[Value.ref b] below meth c H locs 43 4721 (lw_Z below #[Value.ref b] s) (F0 m 18 ls []) := by
    intro n
    induction n using Nat.strongRecOn with
    | _ n ih =>
      intro x3 M N H locs ls hI hH hl
      exact wL_b18 hF hSt hr hlocks hX hbl hbA hnew (fun x3 M N H locs ls h hH hl => by obtain ⟨k, hk, hI⟩ := h; exact ih k hk x3 M N H locs ls hI hH hl) x3 M N H locs ls hH hl (hs n x3 M N hI)
  exact key n x3 M N H locs ls hI hH hl
end
