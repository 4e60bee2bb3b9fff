/-! the start: cells are made one behind another, as the layout says -/
def shk (k : Nat) : px_Sh := fun a => if a < k then some (lay a) else none
def zt {α : Type} (z : α) (k : Nat) (f : Nat → Nat → α) : Prop := ∀ a j, k ≤ a → f a j = z
def Zs (k : Nat) (M : px_M) (L : px_L) (R : px_R) : Prop := zt 0 k M ∧ zt 0 k L ∧ zt none k R
theorem shk_at {k a : Nat} {q : Nat × Nat} (h : a < k) (e : lay a = q) : shk k a = some q := by unfold shk; rw [if_pos h, e]
theorem shk_c {k k' : Nat} {q : Nat × Nat} (e : lay k = q) (h : k + 1 = k') : px_c (shk k) k (some q) = shk k' := by
  funext a
  unfold px_c shk
  by_cases e1 : a = k
  · rw [if_pos e1, if_pos (by omega), e1, e]
  · rw [if_neg e1]
    by_cases e2 : a < k
    · rw [if_pos e2, if_pos (by omega)]
    · rw [if_neg e2, if_neg (by omega)]
theorem zt_c {α : Type} {z : α} {k : Nat} {f : Nat → Nat → α} (h : zt z k f) : px_c f k (fun _ => z) = f := by
  funext a
  unfold px_c
  by_cases e1 : a = k
  · rw [if_pos e1, e1]
    funext j
    exact (h k j (Nat.le_refl _)).symm
  · rw [if_neg e1]
theorem zt.mono {α : Type} {z : α} {k k' : Nat} {f : Nat → Nat → α} (h : zt z k f) (q : k ≤ k') : zt z k' f := fun a j e => h a j (by omega)
theorem zt.u {α : Type} {z : α} {k a j : Nat} {x : α} {f : Nat → Nat → α} (h : zt z k f) (q : a < k) : zt z k (px_u f a j x) := fun b i e => by
  unfold px_u
  rw [if_neg (by omega)]
  exact h b i e
theorem Zs.mono {k k' : Nat} {M : px_M} {L : px_L} {R : px_R} (h : Zs k M L R) (q : k ≤ k') : Zs k' M L R := ⟨h.1.mono q, h.2.1.mono q, h.2.2.mono q⟩
theorem Zs.m {k a j : Nat} {x : Int32} {M : px_M} {L : px_L} {R : px_R} (h : Zs k M L R) (q : a < k) : Zs k (px_u M a j x) L R := ⟨h.1.u q, h.2.1, h.2.2⟩
theorem Zs.r {k a j : Nat} {x : Option Nat} {M : px_M} {L : px_L} {R : px_R} (h : Zs k M L R) (q : a < k) : Zs k M L (px_u R a j x) := ⟨h.1, h.2.1, h.2.2.u q⟩
theorem Zs.rw {k N n' : Nat} {w : Nat → Option Nat} {M : px_M} {L : px_L} {R : px_R} (h : Zs k M L R) (q : k + 1 + N = n') : Zs n' M L (px_c R k w) := ⟨h.1.mono (by omega), h.2.1.mono (by omega), fun a j e => by rw [px_c_ne _ _ (by omega)]; exact h.2.2 a j (by omega)⟩
section BORN
variable {own : String} {cc : ByteArray} {mL : Nat} {rt : Option FieldType} {nm : String × List (Nat × Nat × Nat × Nat)} {d mc ms : Nat} {X : Nat × (Nat → Int32)} {QF : px_F} {pc : Nat} {lv lv' : List (Nat × Value)} {st : List Value} {M : px_M} {L : px_L} {R : px_R} {cu su : Nat}
theorem wz_new {idx kd k k' cu' su' : Nat} (hz : Zs k M L R) (hd : decode cc pc = .ok (.new idx, 3)) (h13 : kd < 13) (hw : Cond.classLink own idx (px_RC kd) ∈ px_G ∧ Cond.instantiable (px_RC kd) (px_N kd) ∈ px_G ∧ Cond.initialized (px_RC kd) ∈ px_G) (hly : lay k = (kd, 0)) (hk' : k + 1 = k') (hcu : cu + 1 = cu') (hsu : su + px_N kd = su') (hc : cu' ≤ mc) (hs : su' ≤ ms)
    (h : WX own cc mL rt nm d mc ms X QF (pc + 3) lv (.ref k :: st) (shk k') M L R k' cu' su') : WX own cc mL rt nm d mc ms X QF pc lv st (shk k) M L R k cu su := by
  refine wx_new hd h13 hw (by omega) (by omega) ?_
  rw [shk_c hly hk', zt_c hz.1, zt_c hz.2.1, zt_c hz.2.2, hk', hcu, hsu]
  exact h
theorem wz_newarr {at9 : ArrayType} {kd N k k' cu' su' : Nat} {i : Int32} (hz : Zs k M L R) (hd : decode cc pc = .ok (.newarray at9, 2)) (hk : 13 ≤ kd ∧ kd < 16) (hty : newarray.typeOf at9 = px_et kd) (hw : Cond.arrayClass (px_et kd) ∈ px_G) (hi : ¬ i < 0) (hN : i.toNatClampNeg = N) (hN2 : N ≤ 60000000) (hly : lay k = (kd, N)) (hk' : k + 1 = k') (hcu : cu + 1 = cu') (hsu : su + N = su') (hc : cu' ≤ mc) (hs : su' ≤ ms)
    (h : WX own cc mL rt nm d mc ms X QF (pc + 2) lv (.ref k :: st) (shk k') M L R k' cu' su') : WX own cc mL rt nm d mc ms X QF pc lv (.int i :: st) (shk k) M L R k cu su := by
  refine wx_newarr hd hk hty hw hi hN hN2 (by omega) (by omega) ?_
  rw [shk_c hly hk', zt_c hz.1, zt_c hz.2.1, zt_c hz.2.2, hk', hcu, hsu]
  exact h
theorem wz_anew {idx kd N k k' cu' su' : Nat} {i : Int32} {C : String} (hz : Zs k M L R) (hd : decode cc pc = .ok (.anewarray idx, 3)) (hkd : (kd = 16 ∧ C = RX5) ∨ (kd = 17 ∧ C = RX10)) (hw : Cond.classLink own idx C ∈ px_G) (hi : ¬ i < 0) (hN : i.toNatClampNeg = N) (hN2 : N ≤ 60000000) (hly : lay k = (kd, N)) (hk' : k + 1 = k') (hcu : cu + 1 = cu') (hsu : su + N = su') (hc : cu' ≤ mc) (hs : su' ≤ ms)
    (h : WX own cc mL rt nm d mc ms X QF (pc + 3) lv (.ref k :: st) (shk k') M L R k' cu' su') : WX own cc mL rt nm d mc ms X QF pc lv (.int i :: st) (shk k) M L R k cu su := by
  refine wx_anew hd hkd hw hi hN hN2 (by omega) (by omega) ?_
  rw [shk_c hly hk', zt_c hz.1, zt_c hz.2.1, zt_c hz.2.2, hk', hcu, hsu]
  exact h
theorem zt_cs {α : Type} {z : α} {k N : Nat} {f : Nat → Nat → α} {w : Nat → α} (h : zt z k f) : px_cs (px_c f k w) (k + 1) N (fun _ => z) = px_c f k w := by
  funext a
  unfold px_cs
  by_cases e1 : k + 1 ≤ a ∧ a < k + 1 + N
  · rw [if_pos e1, px_c_ne _ _ (by omega)]
    funext j
    exact (h a j (by omega)).symm
  · rw [if_neg e1]
theorem wz_multi {idx kd ki N K k k' cu' su' : Nat} {i j : Int32} (hz : Zs k M L R) (hd : decode cc pc = .ok (.multianewarray idx 2, 4)) (hkd : (kd = 18 ∧ ki = 14) ∨ (kd = 19 ∧ ki = 15)) (hw : Cond.classLink own idx ("[" ++ (px_et kd).toString) ∈ px_G) (hi : ¬ i < 0) (hj : ¬ j < 0) (hN : i.toNatClampNeg = N) (hK : j.toNatClampNeg = K) (hN2 : N ≤ 60000000) (hK2 : K ≤ 60000000) (hly : lay k = (kd, N)) (hli : ∀ q, q < N → lay (k + 1 + q) = (ki, K)) (hk' : k + 1 + N = k') (hcu : cu + 1 + N = cu') (hsu : su + N + N * K = su') (hc : cu' ≤ mc) (hs : su' ≤ ms)
    (h : WX own cc mL rt nm d mc ms X QF (pc + 4) lv (.ref k :: st) (shk k') M L (px_c R k (fun q => some (k + 1 + q))) k' cu' su') : WX own cc mL rt nm d mc ms X QF pc lv (.int j :: .int i :: st) (shk k) M L R k cu su := by
  refine wx_multi hd hkd hw hi hj hN hK hN2 hK2 (by omega) (by omega) ?_
  have e : px_cs (px_c (shk k) k (some (kd, N))) (k + 1) N (some (ki, K)) = shk k' := by
    rw [shk_c hly rfl]
    funext a
    unfold px_cs shk
    by_cases e1 : k + 1 ≤ a ∧ a < k + 1 + N
    · have := hli (a - (k + 1)) (by omega)
      rw [show k + 1 + (a - (k + 1)) = a by omega] at this
      rw [if_pos e1, if_pos (by omega), this]
    · rw [if_neg e1]
      by_cases e2 : a < k + 1
      · rw [if_pos e2, if_pos (by omega)]
      · rw [if_neg e2, if_neg (by omega)]
  rw [e, zt_cs hz.1, zt_cs hz.2.1, zt_cs hz.2.2, zt_c hz.1, zt_c hz.2.1, hk', hcu, hsu]
  exact h
theorem wz_init {sh sh1 : px_Sh} {M1 : px_M} {L1 : px_L} {R1 : px_R} {n n1 : Nat} {idx a : Nat} {y : MethodName} {c2 : ByteArray} {mL2 d2 mc2 ms2 cu' su' : Nat} (hd : decode cc pc = .ok (.invokespecial idx, 3)) (hl : px_ml own idx y) (hy : px_my y c2 mL2 none 0) (hst : Cond.instanceMethod y ∈ px_G ∧ y.name = "<init>")
    (hM : MX y c2 mL2 none d2 mc2 ms2 X [.ref a] sh M L R n (px_pu none sh1 M1 L1 R1 n1)) (hdd : d2 + 1 ≤ d) (hcat : (st.map fun v => v.category).sum ≤ 8) (hcu : cu + mc2 = cu') (hsu : su + ms2 = su') (hc : cu' ≤ mc) (hs : su' ≤ ms)
    (h : WX own cc mL rt nm d mc ms X QF (pc + 3) lv st sh1 M1 L1 R1 n1 cu' su') : WX own cc mL rt nm d mc ms X QF pc lv (.ref a :: st) sh M L R n cu su := by
  refine wx_callI (av := []) hd hl hy hst hM rfl hdd hcat (by omega) (by omega) ?_
  rintro v sh' M' L' R' n' ⟨rfl, rfl, rfl, rfl, rfl, rfl⟩
  rw [hcu, hsu]
  exact h
end BORN
theorem cm_X4_34 : Cond.classLink RX4 34 ("[" ++ (px_et 18).toString) ∈ px_G := by
  rw [show ("[" ++ (px_et 18).toString) = "[[J" by first | rfl | decide]
  exact px_mem 310 (by decide +kernel) rfl
theorem cm_X12_75 : Cond.classLink RX12 75 ("[" ++ (px_et 19).toString) ∈ px_G := by
  rw [show ("[" ++ (px_et 19).toString) = "[[Z" by first | rfl | decide]
  exact px_mem 1612 (by decide +kernel) rfl
theorem cm_X12_152 : Cond.classLink RX12 152 ("[" ++ (px_et 18).toString) ∈ px_G := by
  rw [show ("[" ++ (px_et 18).toString) = "[[J" by first | rfl | decide]
  exact px_mem 1614 (by decide +kernel) rfl
