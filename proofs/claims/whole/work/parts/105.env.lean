/-! what lies outside the memory, and the classes -/
def px_cos (j : Nat) : Int32 := [1000, 985, 940, 866, 766, 643, 500, 342, 174].getD j 0
def px_sin (j : Nat) : Int32 := [0, 174, 342, 500, 643, 766, 866, 940, 985].getD j 0
def px_words : String := "in   keep out  if   or   and  not  rho  angleday  far  lead stepstorn leastmost "
def px_bytes : List Int32 := px_words.toList.map (fun c => Int32.ofNat c.toNat)
def px_xs : List String := ["java/lang/IllegalArgumentException", "java/lang/IllegalStateException", "java/lang/IndexOutOfBoundsException", "java/util/NoSuchElementException"]
abbrev px_A (B : Nat) : Nat → Prop := fun q => B ≤ q
/-- rows of rows: the outer class and the inner one -/
def va_MA (ty : FieldType) (U : State) : Prop := ∃ (cA cB ce : ClassId) (kA kB : Class), (U.vm.findClass ("[" ++ (FieldType.array ty).toString) = some cA ∧ U.vm.findClass (FieldType.array ty).toString = some cB) ∧ (U.vm.classes[cA]? = some kA ∧ kA.kind = .array cB (.array ty)) ∧ U.vm.classes[cB]? = some kB ∧ kB.kind = .array ce ty
theorem va_MA.moved {ty : FieldType} {u U : State} (hvm : u.vm.Alike U.vm) (h : va_MA ty u) : va_MA ty U := by
  obtain ⟨cA, cB, ce, kA, kB, ⟨h1, h2⟩, ⟨h3, h4⟩, h5, h6⟩ := h
  obtain ⟨kA', a1, a2⟩ := hvm.2.2 _ _ h3
  obtain ⟨kB', b1, b2⟩ := hvm.2.2 _ _ h5
  exact ⟨cA, cB, ce, kA', kB', ⟨by rw [hvm.findClass]; exact h1, by rw [hvm.findClass]; exact h2⟩, ⟨a1, by rw [a2]; exact h4⟩, b1, by rw [b2]; exact h6⟩
theorem va_MA.of {ty : FieldType} {A : Array Value} {U : State} (h : (Cond.arrayOver (.array ty)).before A U = true) (h' : (Cond.arrayClass ty).before A U = true) : va_MA ty U := by
  obtain ⟨cB, cA, kA, q1, -, q2, q3, q4⟩ := arrayOverA_spec h
  obtain ⟨cB2, kB, ce, r1, r2, r3⟩ := Cond.arrayClass_spec h'
  obtain rfl : cB2 = cB := Option.some.inj (r1.symm.trans q1)
  exact ⟨cA, cB2, ce, kA, kB, ⟨q4, q1⟩, ⟨q2, q3⟩, r2, r3⟩
/-- X: the script, its length and its ints -/
def px_E (B : Nat) (sx : Nat → Nat) (X : Nat × (Nat → Int32)) (U : State) (H : Heap) : Prop :=
  ((∀ w ∈ px_NW, va_Nw w U) ∧ ((va_AO RX5 U ∧ va_MA .long U) ∧ (va_AO RX10 U ∧ va_MA .boolean U)) ∧ ∀ a ∈ px_xs, ∀ b ∈ px_xs, a ≠ b → va_Nc a b U) ∧
  (va_Z RX5 "COS" "[I" (.ref (sx 0)) (px_A B) U H ∧ va_T .int (sx 0) 9 (fun j => .int (px_cos j)) (px_A B) U H) ∧
  (va_Z RX5 "SIN" "[I" (.ref (sx 1)) (px_A B) U H ∧ va_T .int (sx 1) 9 (fun j => .int (px_sin j)) (px_A B) U H) ∧
  (vk_R RX11 387 "an argument is none that can be" (sx 2) U ∧ vk_R RX11 394 "there is none of that number" (sx 3) U ∧ vk_R RX11 399 "there is no such panel" (sx 4) U ∧ vk_R RX11 404 "it can't be asked for now" (sx 5) U ∧ vk_R RX6 121 px_words (sx 6) U) ∧
  (vx_Zq Bundle.tN "UNASSIGNED_STACK" Bundle.steD (px_A B) U H ∧ vx_Zq Bundle.tN "SUPPRESSED_SENTINEL" Bundle.listD (px_A B) U H) ∧
  (vk_S 1 [80] [px_bytes] (fun _ => sx 6) (fun _ => sx 7) (px_A B) U H ∧ va_Z "java/lang/String" "COMPACT_STRINGS" "Z" (.int 1) (px_A B) U H ∧ va_X (sx 10) X.1 X.2 U H ∧ sx 10 < B) ∧
  (va_Z "jdk/internal/util/Preconditions" "SIOOBE_FORMATTER" "Ljava/util/function/BiFunction;" .null (px_A B) U H ∨ va_Z "jdk/internal/util/Preconditions" "SIOOBE_FORMATTER" "Ljava/util/function/BiFunction;" (.ref (sx 8)) (px_A B) U H)
theorem px_E.kept {B : Nat} {sx : Nat → Nat} {X : Nat × (Nat → Int32)} {U : State} {H H1 : Heap} (h : px_E B sx X U H) (hq : ∀ a : Nat, a < H.size → ¬ px_A B a → H1[a]? = H[a]?) : px_E B sx X U H1 := by
  obtain ⟨h1, ⟨h4, h5⟩, ⟨h6, h7⟩, hr, ⟨h8, h9⟩, ⟨h10, h11, h14, h15⟩, h17⟩ := h
  exact ⟨h1, ⟨h4.kept hq, h5.kept hq⟩, ⟨h6.kept hq, h7.kept hq⟩, hr, ⟨h8.kept hq, h9.kept hq⟩, ⟨h10.kept hq, h11.kept hq, h14.kept (hq _ (by obtain ⟨scr, e, -⟩ := h14; exact (Array.getElem?_eq_some_iff.mp e).1) (Nat.not_le.mpr h15)), h15⟩, h17.imp (fun h => h.kept hq) (fun h => h.kept hq)⟩
theorem px_E.warm {B : Nat} {sx : Nat → Nat} {X : Nat × (Nat → Int32)} {s U : State} {H : Heap} (hW : s.WarmedH U.vm) (h : px_E B sx X s H) : px_E B sx X U H := by
  obtain ⟨⟨h1, ⟨h2, h3⟩, h16⟩, ⟨h4, h5⟩, ⟨h6, h7⟩, ⟨r1, r2, r3, r4, r5⟩, ⟨h8, h9⟩, ⟨h10, h11, h14, h15⟩, h17⟩ := h
  have al := hW.alike
  refine ⟨⟨fun w hw => ?_, ⟨⟨va_AO.moved al h2.1, va_MA.moved al h2.2⟩, ⟨va_AO.moved al h3.1, va_MA.moved al h3.2⟩⟩, fun a ha b hb hne => va_Nc.moved al (h16 a ha b hb hne)⟩, ⟨va_Z.moved al h4, va_T.moved al h5⟩, ⟨va_Z.moved al h6, va_T.moved al h7⟩, ⟨vk_R.warm hW r1, vk_R.warm hW r2, vk_R.warm hW r3, vk_R.warm hW r4, vk_R.warm hW r5⟩, ⟨vx_Zq.moved al h8, vx_Zq.moved al h9⟩, ⟨vk_S.moved al h10, va_Z.moved al h11, va_X.moved al h14, h15⟩, h17.imp (va_Z.moved al) (va_Z.moved al)⟩
  have h12 := h1 w hw
  have h13 := (List.mem_filter.mp hw).2
  cases w <;> first
    | exact va_Nw.warmF hW h12
    | exact va_Nw.warmM hW h12
    | exact va_Nw.warmD hW h12
    | exact va_Nw.warmC hW h12
    | (exact absurd h13 (by simp [px_isE]))
theorem px_E.same {B : Nat} {sx : Nat → Nat} {X : Nat × (Nat → Int32)} {u U : State} {H : Heap} (hv : u.vm = U.vm) (h : px_E B sx X u H) : px_E B sx X U H := by
  obtain ⟨⟨h1, ⟨h2, h3⟩, h16⟩, ⟨h4, h5⟩, ⟨h6, h7⟩, ⟨r1, r2, r3, r4, r5⟩, ⟨h8, h9⟩, ⟨h10, h11, h14, h15⟩, h17⟩ := h
  have al : u.vm.Alike U.vm := by rw [hv]; exact Vm.Alike.refl _
  refine ⟨⟨fun w hw => ?_, ⟨⟨va_AO.moved al h2.1, va_MA.moved al h2.2⟩, ⟨va_AO.moved al h3.1, va_MA.moved al h3.2⟩⟩, fun a ha b hb hne => va_Nc.moved al (h16 a ha b hb hne)⟩, ⟨va_Z.moved al h4, va_T.moved al h5⟩, ⟨va_Z.moved al h6, va_T.moved al h7⟩, ⟨vk_R.same hv.symm r1, vk_R.same hv.symm r2, vk_R.same hv.symm r3, vk_R.same hv.symm r4, vk_R.same hv.symm r5⟩, ⟨vx_Zq.moved al h8, vx_Zq.moved al h9⟩, ⟨vk_S.moved al h10, va_Z.moved al h11, va_X.moved al h14, h15⟩, h17.imp (va_Z.moved al) (va_Z.moved al)⟩
  have h12 := h1 w hw
  have h13 := (List.mem_filter.mp hw).2
  cases w <;> first
    | exact va_Nw.same rfl hv h12
    | (exact absurd h13 (by simp [px_isE]))
/-- the classes and the arrays' classes as the tables have them -/
def px_K (D : va_G) (cy : Nat → ClassId) (U : State) : Prop := va_K D vwCl (px_tys cy) U ∧ ∃ k18 k14 : Class, U.vm.classes[cy 18]? = some k18 ∧ k18.kind = .array (cy 14) (.array .long) ∧ U.vm.classes[cy 14]? = some k14
theorem px_K.moved {D : va_G} {cy : Nat → ClassId} {u U : State} (hvm : u.vm.Alike U.vm) (h : px_K D cy u) : px_K D cy U := by
  obtain ⟨h1, k18, k14, h2, h3, h4⟩ := h
  obtain ⟨k', hk', he⟩ := hvm.2.2 _ _ h2
  obtain ⟨k2, hk2, -⟩ := hvm.2.2 _ _ h4
  exact ⟨va_K.moved hvm h1, k', k2, hk', by rw [he]; exact h3, hk2⟩
theorem px_tysat (cy : Nat → ClassId) (kd : Nat) (h1 : 13 ≤ kd) (h2 : kd < 20) : (px_tys cy)[kd - 13]? = some (cy kd, px_et kd) := match kd, h1, h2 with
  | 0, h1, _ => absurd h1 (by omega)
  | 1, h1, _ => absurd h1 (by omega)
  | 2, h1, _ => absurd h1 (by omega)
  | 3, h1, _ => absurd h1 (by omega)
  | 4, h1, _ => absurd h1 (by omega)
  | 5, h1, _ => absurd h1 (by omega)
  | 6, h1, _ => absurd h1 (by omega)
  | 7, h1, _ => absurd h1 (by omega)
  | 8, h1, _ => absurd h1 (by omega)
  | 9, h1, _ => absurd h1 (by omega)
  | 10, h1, _ => absurd h1 (by omega)
  | 11, h1, _ => absurd h1 (by omega)
  | 12, h1, _ => absurd h1 (by omega)
  | 13, _, _ => rfl
  | 14, _, _ => rfl
  | 15, _, _ => rfl
  | 16, _, _ => rfl
  | 17, _, _ => rfl
  | 18, _, _ => rfl
  | 19, _, _ => rfl
  | k + 20, _, h2 => absurd h2 (by omega)
theorem px_K.arr {D : va_G} {cy : Nat → ClassId} {U : State} (h : px_K D cy U) (kd : Nat) (h1 : 13 ≤ kd) (h2 : kd < 20) (N : Nat) (z : Nat → Value) : U.isArrayOf (arrV (cy kd) N z) (px_et kd) := (h.1.2 (kd - 13) _ (px_tysat cy kd h1 h2)).1 N z
