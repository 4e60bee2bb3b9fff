/-! what the Statement gives of the start: the classes, and what lies outside the memory -/
theorem px_ins (kd : Nat) (h : kd < 13) : Cond.instantiable (px_RC kd) (px_N kd) ∈ px_G := match kd, h with
  | 0, _ => px_mem 379 (by decide +kernel) rfl
  | 1, _ => px_mem 1128 (by decide +kernel) rfl
  | 2, _ => px_mem 37 (by decide +kernel) rfl
  | 3, _ => px_mem 250 (by decide +kernel) rfl
  | 4, _ => px_mem 305 (by decide +kernel) rfl
  | 5, _ => px_mem 473 (by decide +kernel) rfl
  | 6, _ => px_mem 179 (by decide +kernel) rfl
  | 7, _ => px_mem 185 (by decide +kernel) rfl
  | 8, _ => px_mem 72 (by decide +kernel) rfl
  | 9, _ => px_mem 130 (by decide +kernel) rfl
  | 10, _ => px_mem 508 (by decide +kernel) rfl
  | 11, _ => px_mem 29 (by decide +kernel) rfl
  | 12, _ => px_mem 1607 (by decide +kernel) rfl
  | k + 13, h => absurd h (by omega)
theorem px_ain (i : Nat) {w : Cond} (h : tables_1[i]? = some w) : w ∈ lw_tbl := List.mem_append_right _ (List.mem_of_getElem? h)
theorem arr_K {s : State} {args : Array Value} {ty : FieldType} (h : (Cond.arrayClass ty).before args s = true) : ∃ (c : ClassId) (k : Class), ArrOfT s c ty ∧ s.vm.findClass (FieldType.array ty).toString = some c ∧ s.vm.classes[c]? = some k := by
  obtain ⟨c, k, ce, r1, r2, r3⟩ := Cond.arrayClass_spec h
  exact ⟨c, k, fun n z => ⟨fun k h => (by cases h), k, r2, ce, r3⟩, r1, r2⟩
theorem px_K_at {s : State} {args : Array Value} (hts : ∀ w ∈ lw_tbl, w.before args s = true) : ∃ (D : va_G) (cy : Nat → ClassId), px_K D cy s := by
  have hg : ∀ w ∈ px_G, w.before args s = true := fun w hw => hts w (List.mem_filter.mp hw).1
  have h0 : ∀ kd : Nat, ∃ q : ClassId × (Nat → Nat), kd < 13 → u_Kn s (px_RC kd) (px_TC kd) (px_N kd) q.1 q.2 := by
    intro kd
    by_cases h : kd < 13
    · obtain ⟨c, iS, hK⟩ := u_known (n := px_N kd) hg (px_inG kd h) (hg _ (px_ins kd h))
      exact ⟨(c, iS), fun _ => hK⟩
    · exact ⟨(0, fun _ => 0), fun q => absurd q h⟩
  obtain ⟨f, hf⟩ := Classical.axiomOfChoice h0
  obtain ⟨c13, k13, a1, a2, -⟩ := arr_K (hg _ ac_13)
  obtain ⟨c14, k14, b1, b2, b3⟩ := arr_K (hg _ ac_14)
  obtain ⟨c15, k15, d1, d2, -⟩ := arr_K (hg _ ac_15)
  obtain ⟨p16, c16, k16, e1, -, e2, e3, e4⟩ := Cond.arrayOver_spec (hts _ (px_ain 78 (w := .arrayOver (.object RX5)) (by decide +kernel)))
  obtain ⟨p17, c17, k17, f1, -, f2, f3, f4⟩ := Cond.arrayOver_spec (hts _ (px_ain 136 (w := .arrayOver (.object RX10)) (by decide +kernel)))
  obtain ⟨p18, c18, k18, g1, -, g2, g3, g4⟩ := arrayOverA_spec (hts _ (px_ain 311 (w := .arrayOver (.array .long)) (by decide +kernel)))
  obtain ⟨p19, c19, k19, i1, -, i2, i3, i4⟩ := arrayOverA_spec (hts _ (px_ain 1613 (w := .arrayOver (.array .boolean)) (by decide +kernel)))
  refine ⟨(fun k => (f k).1, fun k => (f k).2), fun k => [c13, c14, c15, c16, c17, c18, c19].getD (k - 13) 0, ⟨fun c q hq => ?_, fun k q hq => ?_⟩, k18, k14, g2, ?_, b3⟩
  · have hc : c < 13 := by
      have := (List.getElem?_eq_some_iff.mp hq).1
      exact this
    rw [px_cl c hc] at hq
    obtain rfl := Option.some.inj hq
    exact hf c hc
  · match k, hq with
    | 0, hq => cases hq; exact ⟨a1, a2⟩
    | 1, hq => cases hq; exact ⟨b1, b2⟩
    | 2, hq => cases hq; exact ⟨d1, d2⟩
    | 3, hq => cases hq; exact ⟨fun n z => ⟨fun k h => (by cases h), k16, e2, p16, e3⟩, k16, p16, e2, e3, e1, e4⟩
    | 4, hq => cases hq; exact ⟨fun n z => ⟨fun k h => (by cases h), k17, f2, p17, f3⟩, k17, p17, f2, f3, f1, f4⟩
    | 5, hq => cases hq; exact ⟨fun n z => ⟨fun k h => (by cases h), k18, g2, p18, g3⟩, g4⟩
    | 6, hq => cases hq; exact ⟨fun n z => ⟨fun k h => (by cases h), k19, i2, p19, i3⟩, i4⟩
    | k + 7, hq => simp [px_tys] at hq
  · rw [g3, show p18 = c14 from Option.some.inj (g1.symm.trans b2)]
    rfl
/-- the parts of what the Statement gives of the start -/
abbrev nwL : List Cond := flatC (Jvm.Cond.and given_1 narrow_1)
set_option maxRecDepth 100000 in
theorem nw_cos : ∀ j, j < 9 → Cond.eq (.elem (.static RX5 "COS" "[I") (.int (Int32.ofNat j))) (.int (px_cos j)) ∈ nwL := by decide +kernel
set_option maxRecDepth 100000 in
theorem nw_sin : ∀ j, j < 9 → Cond.eq (.elem (.static RX5 "SIN" "[I") (.int (Int32.ofNat j))) (.int (px_sin j)) ∈ nwL := by decide +kernel
def wd_bs : List Int32 := [105, 110, 32, 32, 32, 107, 101, 101, 112, 32, 111, 117, 116, 32, 32, 105, 102, 32, 32, 32, 111, 114, 32, 32, 32, 97, 110, 100, 32, 32, 110, 111, 116, 32, 32, 114, 104, 111, 32, 32, 97, 110, 103, 108, 101, 100, 97, 121, 32, 32, 102, 97, 114, 32, 32, 108, 101, 97, 100, 32, 115, 116, 101, 112, 115, 116, 111, 114, 110, 32, 108, 101, 97, 115, 116, 109, 111, 115, 116, 32]
set_option maxRecDepth 100000 in
theorem wd_eq : px_bytes = wd_bs := by decide +kernel
set_option maxRecDepth 100000 in
theorem nw_wl : (nwL.drop 231).take 80 = (List.range 80).map fun j => Cond.eq (.elem (.field (.string RX6 121) "java/lang/String" "value" "[B") (.int (Int32.ofNat j))) (.int (wd_bs.getD j 0)) := by decide +kernel
theorem nw_wd : ∀ j, j < 80 → Cond.eq (.elem (.field (.string RX6 121) "java/lang/String" "value" "[B") (.int (Int32.ofNat j))) (.int (px_bytes.getD j 0)) ∈ nwL := fun j hj => by
  have h1 : Cond.eq (.elem (.field (.string RX6 121) "java/lang/String" "value" "[B") (.int (Int32.ofNat j))) (.int (wd_bs.getD j 0)) ∈ (nwL.drop 231).take 80 := by
    rw [nw_wl]
    exact List.mem_map.mpr ⟨j, List.mem_range.mpr hj, rfl⟩
  rw [wd_eq]
  exact List.mem_of_mem_drop (List.mem_of_mem_take h1)
set_option maxRecDepth 100000 in
theorem nw_xs : ∀ a ∈ px_xs, ∀ b ∈ px_xs, a ≠ b → Cond.not (.castable a b) ∈ nwL := by decide +kernel
theorem str_at {s : State} {args : Array Value} {own tx : String} {k : Nat} (h1 : (Cond.stringRef own k tx).before args s = true) (h2 : (Cond.exactly (.string own k) "java/lang/String").before args s = true) : ∃ a, vk_R own k tx a s := by
  obtain ⟨a, c, cell, kk, q1, -⟩ := Cond.exactly_spec (args := args) (first := s) (o := none) (s := s) (idx := []) (t := .string own k) (cls := "java/lang/String") h2
  exact ⟨a, vk_R.of h1 q1⟩
theorem lay_L {s : State} {args : Array Value} {C n d : String} {A : Nat → Prop} (hl : (Cond.laysStatic C n d).before args s = true) (hA : ∀ a : Nat, a < s.heap.size → ¬ A a) : vx_L C n d A s s.heap := by
  obtain ⟨c, k, i, f, a, cell, hc, hi, hst, ha, hcell, hs, hcls, hlt, hty⟩ := Cond.laysStatic_spec hl
  exact ⟨c, k, i, f, a, cell, hc, hi, hst, ha, hcell, hs, hcls, hlt, hty, hA a (Array.getElem?_eq_some_iff.mp hcell).1⟩
set_option maxRecDepth 100000 in
theorem px_E_at {s : State} {b : Nat} {X : Nat × (Nat → Int32)} (hts : ∀ w ∈ lw_tbl, w.before #[Value.ref b] s = true) (hX : va_X b X.1 X.2 s s.heap) (hb : b < s.heap.size) (hgv : (Jvm.Cond.and given_1 narrow_1).before #[Value.ref b] s = true) : ∃ sx : Nat → Nat, px_E s.heap.size sx X s s.heap ∧ sx 10 = b := by
  have hs := flat_of_before _ hgv
  have hA : ∀ a : Nat, a < s.heap.size → ¬ px_A s.heap.size a := fun a h q => absurd (show s.heap.size ≤ a from q) (by omega)
  obtain ⟨x0, y0, z0⟩ := va_Tof (tm := .static RX5 "COS" "[I") (ty := .int) (N := 9) (f := fun j => .int (px_cos j)) (A := px_A s.heap.size) (by decide) (hs _ (by decide +kernel)) (va_eqt (hs _ (by decide +kernel))) (fun j hj => va_eqt (hs _ (nw_cos j hj))) hA
  obtain ⟨x1, y1, z1⟩ := va_Tof (tm := .static RX5 "SIN" "[I") (ty := .int) (N := 9) (f := fun j => .int (px_sin j)) (A := px_A s.heap.size) (by decide) (hs _ (by decide +kernel)) (va_eqt (hs _ (by decide +kernel))) (fun j hj => va_eqt (hs _ (nw_sin j hj))) hA
  obtain ⟨x2, z2⟩ := str_at (hts _ (px_ain 676 (w := .stringRef RX11 387 "an argument is none that can be") (by decide +kernel))) (hs _ (by decide +kernel))
  obtain ⟨x3, z3⟩ := str_at (hts _ (px_ain 788 (w := .stringRef RX11 394 "there is none of that number") (by decide +kernel))) (hs _ (by decide +kernel))
  obtain ⟨x4, z4⟩ := str_at (hts _ (px_ain 944 (w := .stringRef RX11 399 "there is no such panel") (by decide +kernel))) (hs _ (by decide +kernel))
  obtain ⟨x5, z5⟩ := str_at (hts _ (px_ain 753 (w := .stringRef RX11 404 "it can't be asked for now") (by decide +kernel))) (hs _ (by decide +kernel))
  obtain ⟨adK, adV, z6, z7⟩ := vk_Sof (args := #[Value.ref b]) (s := s) (N := 1) (tm := fun _ => .string RX6 121) (len := [80]) (byt := [px_bytes]) (A := px_A s.heap.size) (fun i hi => by cases (show i = 0 by omega); decide) (fun i hi => hs _ (by decide +kernel)) (fun i hi => hs _ (by decide +kernel)) (fun i hi => hs _ (by decide +kernel)) (fun i hi => by
    cases (show i = 0 by omega)
    exact hs _ (by decide +kernel)) (fun i hi j hj => by
    cases (show i = 0 by omega)
    exact hs _ (nw_wd j hj)) (fun i j hi hj e => absurd (show i = j by omega) e) hA
  have hz9 := va_Zqof (A := px_A s.heap.size) (hts _ (px_ain 1242 (w := .laysStatic "jdk/internal/util/Preconditions" "SIOOBE_FORMATTER" "Ljava/util/function/BiFunction;") (by decide +kernel))) (hts _ (px_ain 26 (w := .initialized "jdk/internal/util/Preconditions") (by decide +kernel))) (hs _ (by decide +kernel)) hA
  obtain ⟨x8, z8⟩ : ∃ x8, va_Z "jdk/internal/util/Preconditions" "SIOOBE_FORMATTER" "Ljava/util/function/BiFunction;" .null (px_A s.heap.size) s s.heap ∨ va_Z "jdk/internal/util/Preconditions" "SIOOBE_FORMATTER" "Ljava/util/function/BiFunction;" (.ref x8) (px_A s.heap.size) s s.heap := by
    rcases hz9 with q | ⟨t, q⟩
    · exact ⟨0, Or.inl q⟩
    · exact ⟨t, Or.inr q⟩
  have hin5 := hts _ (px_ain 19 (w := .initialized RX5) (by decide +kernel))
  have hinT := hts _ (px_ain 11 (w := .initialized "java/lang/Throwable") (by decide +kernel))
  have hlU := hts _ (px_ain 661 (w := .laysStatic "java/lang/Throwable" "UNASSIGNED_STACK" "[Ljava/lang/StackTraceElement;") (by decide +kernel))
  have hlS := hts _ (px_ain 663 (w := .laysStatic "java/lang/Throwable" "SUPPRESSED_SENTINEL" "Ljava/util/List;") (by decide +kernel))
  refine ⟨fun k => [x0, x1, x2, x3, x4, x5, adK 0, adV 0, x8, 0, b].getD k 0, ⟨⟨fun w hw => ?_, ⟨⟨va_AO.of (hts _ (px_ain 78 (w := .arrayOver (.object RX5)) (by decide +kernel))), va_MA.of (hts _ (px_ain 311 (w := .arrayOver (.array .long)) (by decide +kernel))) (hts _ (px_ain 303 (w := .arrayClass .long) (by decide +kernel)))⟩, va_AO.of (hts _ (px_ain 136 (w := .arrayOver (.object RX10)) (by decide +kernel))), va_MA.of (hts _ (px_ain 1613 (w := .arrayOver (.array .boolean)) (by decide +kernel))) (hts _ (px_ain 377 (w := .arrayClass .boolean) (by decide +kernel)))⟩, fun a ha c hc hne => va_Nc.of (hs _ (nw_xs a ha c hc hne))⟩, ⟨va_Zref (hts _ (px_ain 486 (w := .laysStatic RX5 "COS" "[I") (by decide +kernel))) hin5 y0 hA, z0⟩, ⟨va_Zref (hts _ (px_ain 491 (w := .laysStatic RX5 "SIN" "[I") (by decide +kernel))) hin5 y1 hA, z1⟩, ⟨z2, z3, z4, z5, vk_R.of (hts _ (px_ain 1224 (w := .stringRef RX6 121 px_words) (by decide +kernel))) (z7 0 (by omega))⟩, ⟨⟨va_Zqof hlU hinT (hs _ (by decide +kernel)) hA, lay_L hlU hA⟩, va_Zqof hlS hinT (hs _ (by decide +kernel)) hA, lay_L hlS hA⟩, ⟨⟨fun i hi => ?_, fun i j hi hj _ => by omega⟩, va_Zof (hts _ (px_ain 1234 (w := .laysStatic "java/lang/String" "COMPACT_STRINGS" "Z") (by decide +kernel))) (hts _ (px_ain 24 (w := .initialized "java/lang/String") (by decide +kernel))) (va_eqi (hs _ (by decide +kernel))) hA, hX, hb⟩, z8⟩, rfl⟩
  · have h1 := hts w (List.mem_filter.mp hw).1
    have h2 := (List.mem_filter.mp hw).2
    cases w <;> first
      | exact va_Nw.of rfl h1
      | (exact absurd h2 (by simp [px_isE]))
  · obtain rfl : i = 0 := by omega
    exact z6.1 0 (by omega)
/-- the law from its entry -/
theorem whole_start {p : Program} {e : Env} {s : State} {m : MethodId} {below : List Frame} {meth : Method} {c : Code} (l : Launch) (hst : l.stackTraces = false) {b L : Nat} {xs : Nat → Int32} (hL : L ≤ 3072) (C0 : lw_At p s m meth c b L xs) (hnm : meth.name = "law" ∧ c.exceptionTable.toList = []) : W p l e room_1 s m #[Value.ref b] below meth c s.heap [] 0 0 (lw_Z below #[Value.ref b] s) (entryFrame m ([Value.ref b] : List Value).toArray 8) := by
  obtain ⟨hx, hb, hr, hml, hown, hts, hX, hbl, hlocks, hgv⟩ := C0
  obtain ⟨D, cy, hK⟩ := px_K_at hts
  obtain ⟨sx, hE, hsx⟩ := px_E_at (X := (L, xs)) hts hX hbl hgv
  have hl := lv_entry ([Value.ref b]) (n := 8) (Nat.le_of_ble_eq_true rfl)
  rw [lg_entry_eq]
  generalize (lg_sl ([Value.ref b]) ++ List.replicate (8 - (lg_sl ([Value.ref b])).length) Slot.unset).toArray = ls at hl ⊢
  have hl : lv_has ls 8 [(0, .ref b)] := hl
  have key := law_start (X := (L, xs)) hL p l e room_1 s m #[Value.ref b] below meth c s.heap.size D cy sx s.heap [] ls ⟨hx, hb, hml, hr, hown, fun w hw => hts w (List.mem_filter.mp hw).1, hlocks, hK, hE, hnm, hst, Nat.le_refl _, by decide, by decide, by decide, by decide⟩ (fun a kl h => by simp [shk] at h) rfl va_S.rf (by rw [← hsx] at hl; exact hl)
  intro T hT Y
  obtain ⟨t, a1, a2⟩ := key T hT Y
  exact ⟨t, a1, a2 (Nat.le_refl _)⟩
