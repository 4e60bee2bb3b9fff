/-! lies -/
/-- the row of n parts that an int tells, three bits a part -/
def rowOf (v : Nat) (n : Nat) : List Nat := (List.range n).map fun k => v / 2 ^ (3 * k) % 8
theorem rowOf_succ (v n : Nat) : rowOf v (n + 1) = rowOf v n ++ [v / 2 ^ (3 * n) % 8] := by unfold rowOf; rw [List.range_succ, List.map_append]; rfl
theorem rowOf_len (v n : Nat) : (rowOf v n).length = n := by unfold rowOf; simp
theorem rowOf_get (v : Nat) {n k : Nat} (h : k < n) : (rowOf v n).getD k 0 = v / 2 ^ (3 * k) % 8 := by
  rw [gd_in (by rw [rowOf_len]; exact h)]
  unfold rowOf
  simp
theorem told {v k : Nat} (hv : v < 2 ^ 31) (hk : k < 8) : ((nI v >>> ((3 * nI k) &&& 31)) &&& 7) = nI (v / 2 ^ (3 * k) % 8) := by
  rw [show (3 : Int32) = nI 3 from rfl, pk_mul, pk_shrN hv _ (3 * k) (sh_l (3 * k) (by omega))]
  exact pk_andN (k := 3) (m := 7) (Nat.lt_of_le_of_lt (Nat.div_le_self _ _) (by omega)) (by decide)
theorem dup_of : ∀ l : List Nat, ¬ l.Nodup → ∃ a, a ∈ l ∧ a ∈ l.erase a
  | [], h => absurd List.nodup_nil h
  | b :: t, h => by
    by_cases q : b ∈ t
    · exact ⟨b, List.mem_cons_self, by rw [List.erase_cons_head]; exact q⟩
    · obtain ⟨a, a1, a2⟩ := dup_of t fun x => h (List.nodup_cons.mpr ⟨q, x⟩)
      have hne : b ≠ a := fun e => q (e ▸ a1)
      refine ⟨a, List.mem_cons_of_mem _ a1, ?_⟩
      rw [List.erase_cons_tail (by simpa using hne)]
      exact List.mem_cons_of_mem _ a2
theorem full_of_mask {n : Nat} {l : List Nat} (hl : l.length = n) (h : mask l = 2 ^ n - 1) : Full n l := by
  have hin : ∀ p, p ∈ l ↔ p < n := fun p => by
    rw [← List.contains_iff_mem, ← mask_bit, h, Nat.testBit_two_pow_sub_one]
    simp
  have hnd : l.Nodup := by
    apply Decidable.byContradiction
    intro q
    obtain ⟨a, a1, a2⟩ := dup_of l q
    have h1 : (List.range n).length ≤ (l.erase a).length := by
      refine List.Nodup.length_le_of_subset List.nodup_range fun x hx => ?_
      by_cases e : x = a
      · rw [e]; exact a2
      · exact (List.mem_erase_of_ne e).mpr ((hin x).mpr (List.mem_range.mp hx))
    rw [List.length_erase_of_mem a1, List.length_range] at h1
    have := List.length_pos_of_mem a1
    omega
  exact ⟨hnd, hl, fun p hp => (hin p).mpr hp, fun p hp => (hin p).mp hp⟩
/-- a row that is a pile of all parts: every part may come just when it stands -/
theorem acc_st {n u : Nat} {row : List Nat} (hF : Full n row) : ∀ (k : Nat) (l r se so : List Nat), row = l ++ r → r.length = k → SI n 0 l se → SI n 1 l so →
    (∀ a p b, l = a ++ p :: b → okPt n u a p = true ∧ (∃ s, SI n 0 a s ∧ ∃ t, sdW n 0 a p s = some t) ∧ ∃ s, SI n 1 a s ∧ ∃ t, sdW n 1 a p s = some t) → k = 0 → stB n u row = true := by
  intro k l r se so e hk h0 h1 hh hk0
  have hr : r = [] := List.eq_nil_of_length_eq_zero (by omega)
  rw [hr, List.append_nil] at e
  subst e
  rw [stB_iff]
  exact ok_st hF (fun a p b e => (hh a p b e).1) (fun a p b e => (hh a p b e).2.1) (fun a p b e => (hh a p b e).2.2)
section LIES
variable {sh : px_Sh} {M : px_M} {n u o : Nat} {row : List Nat}
theorem c_liesSo (hn : M 1 0 = nI n) (hu : M 1 1 = nI u) (hu2 : u < 2 ^ 31) (hn8 : n ≤ 8) {v : Nat} (hv : v < 2 ^ 31) (hF : Full n (rowOf v n)) : f_X2_liesSo M (nI v) = some (b2 (stB n u (rowOf v n))) := by
  have hbd : ∀ k, k ≤ n → (∀ p, p ∈ rowOf v k → p < n) ∧ ∃ r, rowOf v n = rowOf v k ++ r := by
    intro k hk
    have : ∀ d, k + d = n → ∃ r, rowOf v n = rowOf v k ++ r := by
      intro d
      induction d generalizing k with
      | zero => intro e; exact ⟨[], by rw [show k = n by omega]; simp⟩
      | succ d ih =>
        intro e
        obtain ⟨r, hr⟩ := ih (k + 1) (by omega) (by omega)
        exact ⟨(v / 2 ^ (3 * k) % 8) :: r, by rw [hr, rowOf_succ]; simp⟩
    obtain ⟨r, hr⟩ := this (n - k) (by omega)
    exact ⟨fun p hp => hF.2.2.2 p (by rw [hr]; exact List.mem_append_left _ hp), r, hr⟩
  have hgo : ∀ (m k : Nat) (se so : List Nat), k + m = n → SI n 0 (rowOf v k) se → SI n 1 (rowOf v k) so →
      (∀ a p b, rowOf v k = a ++ p :: b → okPt n u a p = true ∧ (∃ s, SI n 0 a s ∧ ∃ t, sdW n 0 a p s = some t) ∧ ∃ s, SI n 1 a s ∧ ∃ t, sdW n 1 a p s = some t) →
      ∃ z, lpf (fun a : Int32 × Int32 × Int32 × Int32 => f_X2_liesSo_10 M (nI v) a.1 a.2.1 a.2.2.1 a.2.2.2) (nI (mask (rowOf v k)), nI (enc se), nI (enc so), nI k) = some z ∧ ((z = .inr (.inr ()) ∧ stB n u (rowOf v n) = true) ∨ ((z = .inl () ∨ z = .inr (.inl ())) ∧ stB n u (rowOf v n) = false)) := by
    intro m
    induction m with
    | zero =>
      intro k se so hk h0 h1 hh
      obtain rfl : k = n := by omega
      refine ⟨_, lpf_end (b := .inr (.inr ())) ?_, Or.inl ⟨rfl, acc_st hF 0 _ [] se so (by simp) rfl h0 h1 hh rfl⟩⟩
      show f_X2_liesSo_10 M (nI v) _ _ _ (nI k) = _
      unfold f_X2_liesSo_10
      rw [hn, if_pos (Int32.le_refl _)]
    | succ m ih =>
      intro k se so hk h0 h1 hh
      obtain ⟨hb, r, hr⟩ := hbd (k + 1) (by omega)
      obtain ⟨hb0, -⟩ := hbd k (by omega)
      rw [rowOf_succ] at hb hr
      obtain ⟨p, hp⟩ : ∃ p, p = v / 2 ^ (3 * k) % 8 := ⟨_, rfl⟩
      rw [← hp] at hb hr
      have hpn : p < n := hb p (by simp)
      have hr2 : rowOf v n = rowOf v k ++ p :: r := by rw [hr]; simp
      have hF2 : Full n (rowOf v k ++ p :: r) := by rw [← hr2]; exact hF
      have hpk : ¬ p ∈ rowOf v k := fun q => (List.nodup_append.mp hF2.1).2.2 p q p List.mem_cons_self rfl
      have hb1 : f_X2_liesSo_10 M (nI v) (nI (mask (rowOf v k))) (nI (enc se)) (nI (enc so)) (nI k) = (if okPt n u (rowOf v k) p = false then some (.inr (.inl ())) else if encO (sdW n 0 (rowOf v k) p se) = -1 then some (.inr (.inr (.inl ()))) else if encO (sdW n 1 (rowOf v k) p so) = -1 then some (.inr (.inr (.inl ()))) else some (.inl (nI (mask (rowOf v (k + 1))), encO (sdW n 0 (rowOf v k) p se), encO (sdW n 1 (rowOf v k) p so), nI (k + 1)))) := by
        unfold f_X2_liesSo_10
        rw [hn, if_neg (nI_ge (by omega) (by omega)), nm_u, told hv (by omega), ← hp, mayC hn hu hu2 hn8 hb0 hpn, bd1_e, ifi b2_0, e_even (by omega), bd1_e, sideC (par := 0) (by decide) hn hn8 hb0 hpn (SI_enc hn8 h0) (fun c hc => by have := ((h0.1 c).mp hc).1.2; omega), bd1_e, e_odd (by omega), bd1_e, sideC (par := 1) (by decide) hn hn8 hb0 hpn (SI_enc hn8 h1) (fun c hc => by have := ((h1.1 c).mp hc).1.2; omega), bd1_e, nm_u, shl1 p (by omega), orI, ← mask_app, nI_1, rowOf_succ, ← hp]
      have hfalse : (¬ (okPt n u (rowOf v k) p = true ∧ (∃ t, sdW n 0 (rowOf v k) p se = some t) ∧ ∃ t, sdW n 1 (rowOf v k) p so = some t)) → stB n u (rowOf v n) = false := by
        intro hx
        apply Bool.eq_false_iff.mpr
        intro hst
        rw [hr2] at hst
        have hS := stB_iff.mp hst
        exact hx ⟨st_ok hF2 hS, st_side (by decide) hF2 hS h0, st_side (by decide) hF2 hS h1⟩
      have hne : ∀ s : List Nat, enc s < 2 ^ 28 → ¬ nI (enc s) = -1 := fun s hs q => by
        have := nI_pos' (n := enc s) (by omega)
        rw [q] at this; exact absurd this (by decide)
      by_cases c1 : okPt n u (rowOf v k) p = true
      · rw [if_neg (by rw [c1]; decide)] at hb1
        cases c2 : sdW n 0 (rowOf v k) p se with
        | none =>
          rw [c2, if_pos (show encO none = -1 from rfl)] at hb1
          refine ⟨_, lpf_end (b := .inr (.inl ())) hb1, Or.inr ⟨Or.inr rfl, hfalse ?_⟩⟩
          rintro ⟨-, ⟨t, ht⟩, -⟩
          rw [c2] at ht; cases ht
        | some a =>
          have s0 : SI n 0 (rowOf v k ++ [p]) a := by
            rcases SI_step (by decide) h0 hpn hpk with ⟨t, e, e2⟩ | ⟨e, -⟩
            · rw [c2] at e; cases e; exact e2
            · rw [c2] at e; cases e
          rw [c2, if_neg (show ¬ encO (some a) = -1 from hne a (SI_enc hn8 s0))] at hb1
          cases c3 : sdW n 1 (rowOf v k) p so with
          | none =>
            rw [c3, if_pos (show encO none = -1 from rfl)] at hb1
            refine ⟨_, lpf_end (b := .inr (.inl ())) hb1, Or.inr ⟨Or.inr rfl, hfalse ?_⟩⟩
            rintro ⟨-, -, t, ht⟩
            rw [c3] at ht; cases ht
          | some b =>
            have s1 : SI n 1 (rowOf v k ++ [p]) b := by
              rcases SI_step (by decide) h1 hpn hpk with ⟨t, e, e2⟩ | ⟨e, -⟩
              · rw [c3] at e; cases e; exact e2
              · rw [c3] at e; cases e
            rw [c3, if_neg (show ¬ encO (some b) = -1 from hne b (SI_enc hn8 s1))] at hb1
            rw [lpf_go (show (fun a : Int32 × Int32 × Int32 × Int32 => f_X2_liesSo_10 M (nI v) a.1 a.2.1 a.2.2.1 a.2.2.2) (nI (mask (rowOf v k)), nI (enc se), nI (enc so), nI k) = _ from hb1)]
            have hs : rowOf v (k + 1) = rowOf v k ++ [p] := by rw [rowOf_succ, hp]
            refine ih (k + 1) a b (by omega) (by rw [hs]; exact s0) (by rw [hs]; exact s1) fun x y z e => ?_
            rw [hs] at e
            by_cases hz : z = []
            · subst hz
              obtain ⟨e1, e2⟩ := List.append_inj' e rfl
              cases e2
              subst e1
              exact ⟨c1, ⟨se, h0, a, c2⟩, so, h1, b, c3⟩
            · obtain ⟨z', w, rfl⟩ : ∃ z' w, z = z' ++ [w] := ⟨z.dropLast, z.getLast hz, (List.dropLast_concat_getLast hz).symm⟩
              have e3 : rowOf v k ++ [p] = (x ++ y :: z') ++ [w] := by rw [e]; simp
              obtain ⟨e1, e2⟩ := List.append_inj' e3 rfl
              exact hh x y z' e1
      · rw [if_pos (Bool.eq_false_iff.mpr c1)] at hb1
        exact ⟨_, lpf_end (b := .inl ()) hb1, Or.inr ⟨Or.inl rfl, hfalse fun x => c1 x.1⟩⟩
  obtain ⟨z, z1, z2⟩ := hgo n 0 [] [] (by omega) (SI_nil n 0) (SI_nil n 1) (fun a p b e => by unfold rowOf at e; simp at e)
  unfold f_X2_liesSo
  rw [show lpf (fun a : Int32 × Int32 × Int32 × Int32 => f_X2_liesSo_10 M (nI v) a.1 a.2.1 a.2.2.1 a.2.2.2) (0, 0, 0, 0) = _ from z1]
  rcases z2 with ⟨rfl, q⟩ | ⟨rfl | rfl, q⟩ <;> rw [q] <;> rfl
/-- the parts that a row names, as the class and the reference gather them -/
theorem c_rowUsed (hn : M 1 0 = nI n) (hn8 : n ≤ 8) {v : Nat} (hv : v < 2 ^ 31) : lpf (fun a : Int32 × Int32 => f_X2_isRowOfParts_17 M (nI v) a.1 a.2) (0, 0) = some (nI (mask (rowOf v n))) := by
  have K := lpf_for (body := fun a : Int32 × Int32 => f_X2_isRowOfParts_17 M (nI v) a.1 a.2) (fun i (s : Int32) => (s, nI i)) (fun i s => nI (mask (rowOf v (i + 1)))) (fun i s => s = nI (mask (rowOf v i))) (fun s => s) n
    (fun i s hi hP => by
      refine ⟨?_, rfl⟩
      show f_X2_isRowOfParts_17 M (nI v) s (nI i) = _
      unfold f_X2_isRowOfParts_17
      rw [hn, if_neg (nI_ge hi (by omega)), nm_u, told hv (by omega), shl1 _ (by omega), hP, orI, ← mask_app, ← rowOf_succ, nI_1])
    (fun s _ => by
      show f_X2_isRowOfParts_17 M (nI v) s (nI n) = _
      unfold f_X2_isRowOfParts_17
      rw [hn, if_pos (Int32.le_refl _)]) n 0 0 (by omega) rfl
  have := K.1
  rw [K.2] at this
  exact this
theorem m_rowUsed (hn : M 73 1 = nI n) (hn8 : n ≤ 8) {v : Nat} (hv : v < 2 ^ 31) : ∃ M', lpf (fun a : Int32 × Int32 × px_M => f_X12_lies_60 a.2.2 (nI v) a.1 a.2.1) (0, 0, M) = some (nI (mask (rowOf v n)), M') ∧ (∀ a j, a ≠ 76 → M' a j = M a j) ∧ ∀ j, j < n → M' 76 j = nI ((rowOf v n).getD j 0) := by
  have K := lpf_for (body := fun a : Int32 × Int32 × px_M => f_X12_lies_60 a.2.2 (nI v) a.1 a.2.1) (fun i (s : Int32 × px_M) => (s.1, nI i, s.2)) (fun i s => (nI (mask (rowOf v (i + 1))), px_u s.2 76 i (nI (v / 2 ^ (3 * i) % 8))))
    (fun i s => s.1 = nI (mask (rowOf v i)) ∧ (∀ a j, a ≠ 76 → s.2 a j = M a j) ∧ ∀ j, j < i → s.2 76 j = nI (v / 2 ^ (3 * j) % 8)) (fun s => s) n
    (fun i s hi hP => by
      obtain ⟨p1, p2, p3⟩ := hP
      refine ⟨?_, rfl, fun a j q => ?_, fun j hj => ?_⟩
      · show f_X12_lies_60 s.2 (nI v) s.1 (nI i) = _
        unfold f_X12_lies_60
        rw [p2 73 1 (by decide), hn, if_neg (nI_ge hi (by omega)), nm_u, told hv (by omega), ok_t (ix_k (show i < 8 by omega) (by decide)), nI_clamp (by omega), nm_u, px_u_in, ok_t (ix_k (show i < 8 by omega) (by decide)), shl1 _ (by omega), nm_u, p1, orI, ← mask_app, ← rowOf_succ, nI_1]
      · dsimp only; rw [pu_n (by omega)]; exact p2 a j q
      · by_cases e : j = i
        · subst e; exact px_u_in _ _ _ _
        · dsimp only; rw [pu_n (by omega)]; exact p3 j (by omega))
    (fun s hP => by
      show f_X12_lies_60 s.2 (nI v) s.1 (nI n) = _
      unfold f_X12_lies_60
      rw [hP.2.1 73 1 (by decide), hn, if_pos (Int32.le_refl _)]) n 0 (0, M) (by omega) ⟨rfl, fun _ _ _ => rfl, fun j hj => absurd hj (by omega)⟩
  obtain ⟨k1, k2, k3, k4⟩ := K
  refine ⟨_, by rw [← k2]; exact k1, k3, fun j hj => ?_⟩
  rw [rowOf_get v hj]; exact k4 j hj
theorem p_lies (hI : FoldI M n u o row) (p1 : Int32) :
    (∃ r M2, f_X11_lies M p1 = some (.inl r) ∧ f_X12_lies M p1 = some (r, M2) ∧ zb r = true ∧ M2 73 0 = 0 ∧ kp sh [] M M2) ∨ (f_X11_lies M p1 = some (.inr 1) ∧ ∃ b M2, f_X12_lies M p1 = some (b, M2) ∧ M2 73 0 = 1 ∧ kp sh [] M M2) ∨ (f_X11_lies M p1 = some (.inr 0) ∧ ∃ b M2, f_X12_lies M p1 = some (b, M2) ∧ M2 73 0 = 2 ∧ kp sh [] M M2) := by
  obtain ⟨h1, h2, h3, h4, h5, h6⟩ := hI
  have e1 : (px_u M 73 0 0) 73 1 = nI n := h3.2.1
  by_cases hn0 : n = 0
  · right; left
    subst hn0
    unfold f_X11_lies f_X12_lies f_X11_lies_15 f_X12_lies_18 f_X12_lies_54
    rw [h3.1, if_pos (by decide), if_pos rfl, nm_u, e1, if_pos (show nI 0 = 0 from rfl), e_bt (by decide), bd1_e]
    exact ⟨rfl, 0, px_t M 1, rfl, px_t_in _ _, px_t_kp _ _⟩
  · have hn8 : n ≤ 8 := by omega
    have hn1 : 1 ≤ n := by omega
    have hc0 : f_X11_lies M p1 = bd1 (f_X2_isRowOfParts M p1) (fun e => if e = 0 then some (.inr 0) else bd1 (f_X11_lies_29 M p1) fun r => some (.inl r)) := by
      unfold f_X11_lies f_X11_lies_15
      rw [h3.1, if_neg (nI_nle (by omega) (by omega)), if_neg (by decide)]
    have hm0 : f_X12_lies M p1 = (if p1 < 0 then f_X12_lies_42 (px_u M 73 0 0) p1 else if p1 < nI (2 ^ (3 * n)) then f_X12_lies_47 (px_u M 73 0 0) p1 0 else f_X12_lies_42 (px_u M 73 0 0) p1) := by
      unfold f_X12_lies f_X12_lies_18
      rw [nm_u, e1, if_neg (nI_ne0 (by omega) (by omega)), e_bf, bd1_e, if_pos rfl]
      simp only [e1]
      rw [show (3 : Int32) = nI 3 from rfl, pk_mul, shl1 (3 * n) (by omega)]
    have hm42 : f_X12_lies_42 (px_u M 73 0 0) p1 = some (0, px_t M 2) := by
      unfold f_X12_lies_42 f_X12_lies_47 f_X12_lies_54
      rw [e_bt (by decide), bd1_e]; rfl
    have hu7 : u < 2 ^ 31 := by omega
    have hus : ∀ x : Int32, (x.toUInt32 >>> ((3 * M 1 0).toUInt32 &&& Int32.toUInt32 31)).toInt32.toBitVec.toNat = x.toBitVec.toNat / 2 ^ (3 * n) := by
      intro x
      rw [h3.1, show (3 : Int32) = nI 3 from rfl, pk_mul]
      exact pk_ushr x (nI (3 * n)) (3 * n) (by
        obtain rfl | rfl | rfl | rfl | rfl | rfl | rfl : n = 2 ∨ n = 3 ∨ n = 4 ∨ n = 5 ∨ n = 6 ∨ n = 7 ∨ n = 8 := by omega
        all_goals decide)
    have hpw : 2 ^ (3 * n) ≤ 2 ^ 24 := Nat.pow_le_pow_right (by decide) (by omega)
    have h24 : (2 : Nat) ^ 24 = 16777216 := by decide
    have hz7 : (0 : Int32).toBitVec.toNat = 0 := by decide
    by_cases hr : ∃ v, v < 2 ^ (3 * n) ∧ p1 = nI v
    · obtain ⟨v, hv, rfl⟩ := hr
      have hv2 : v < 2 ^ 31 := by omega
      have hu0 : ((nI v).toUInt32 >>> ((3 * M 1 0).toUInt32 &&& Int32.toUInt32 31)).toInt32 = 0 := by
        have := hus (nI v)
        rw [pk_tn (by omega), Nat.div_eq_of_lt hv] at this
        apply Int32.toBitVec_inj.mp
        apply BitVec.eq_of_toNat_eq
        rw [this]; rfl
      have hcr : f_X2_isRowOfParts M (nI v) = some (b2 (decide (mask (rowOf v n) = 2 ^ n - 1))) := by
        unfold f_X2_isRowOfParts f_X2_isRowOfParts_61
        have hm : mask (rowOf v n) < 2 ^ 8 := mask_lt fun p hp => by
          unfold rowOf at hp
          obtain ⟨k, -, rfl⟩ := List.mem_map.mp hp
          omega
        have hp8 : 2 ^ n ≤ 2 ^ 8 := Nat.pow_le_pow_right (by decide) hn8
        have hp1 := Nat.two_pow_pos n
        rw [if_pos hu0, c_rowUsed h3.1 hn8 hv2, bd1_e, h3.1, shl1 n (by omega), show nI (2 ^ n) - 1 = nI (2 ^ n - 1) from pk_sub (b := 1) (by omega), ifi (nI_eq (by omega) (by omega))]
        by_cases c : mask (rowOf v n) = 2 ^ n - 1
        · rw [if_pos c, decide_eq_true c]; rfl
        · rw [if_neg c, decide_eq_false c]; rfl
      obtain ⟨M', m1, m2, m3⟩ := m_rowUsed (M := px_u M 73 0 0) e1 hn8 hv2
      have hm47 : f_X12_lies_47 (px_u M 73 0 0) (nI v) 0 = f_X12_lies_117 M' (b2 (!decide (mask (rowOf v n) = 2 ^ n - 1))) := by
        unfold f_X12_lies_47
        have hm : mask (rowOf v n) < 2 ^ 8 := mask_lt fun p hp => by
          unfold rowOf at hp
          obtain ⟨k, -, rfl⟩ := List.mem_map.mp hp
          omega
        have hp8 : 2 ^ n ≤ 2 ^ 8 := Nat.pow_le_pow_right (by decide) hn8
        have hp1 := Nat.two_pow_pos n
        rw [e_bf, bd1_e, if_pos rfl, m1, bd1_e]
        simp only [m2 73 1 (by decide), e1]
        rw [shl1 n (by omega), show nI (2 ^ n) - 1 = nI (2 ^ n - 1) from pk_sub (b := 1) (by omega), ifi (nI_eq (by omega) (by omega))]
        by_cases c : mask (rowOf v n) = 2 ^ n - 1
        · rw [if_pos c, decide_eq_true c]; rfl
        · rw [if_neg c, decide_eq_false c]; rfl
      have hz : M' 73 0 = 0 := by rw [m2 73 0 (by decide)]; exact px_u_in _ _ _ _
      have hk1 : kp sh [] M M' := fun a j hn => by
        have x1 : a ≠ 76 := fun q => hn (by rw [q]; exact List.mem_cons_self)
        rw [m2 a j x1]; exact px_0_kp M 0 a j hn
      rw [hc0, hcr, bd1_e, hm0, if_neg (nI_pos hv2), if_pos (nI_lt hv (by omega)), hm47]
      by_cases c : mask (rowOf v n) = 2 ^ n - 1
      · left
        have hF := full_of_mask (rowOf_len v n) c
        obtain ⟨M2, s1, s2⟩ := m_stands (M := M') (by rw [m2 73 1 (by decide)]; exact e1) (u := u) (by rw [m2 73 2 (by decide)]; exact h3.2.2.2.1) hu7 hn8 hn1 hF m3
        refine ⟨b2 (stB n u (rowOf v n)), M2, ?_, ?_, b2_z _, ?_, fun a j hn => ?_⟩
        · unfold f_X11_lies_29
          rw [decide_eq_true c, if_neg (show ¬ b2 true = 0 by decide), c_liesSo h3.1 h3.2.2.1 hu7 hn8 hv2 hF, bd1_e, ok_t (b2_z _)]; rfl
        · unfold f_X12_lies_117
          rw [decide_eq_true c, show b2 (!true) = 0 from rfl, e_bad_f hz, bd1_e, if_pos rfl, s1, bd1_e, ok_t (b2_z _)]
        · rw [s2 73 0 (by decide)]; exact hz
        · have x1 : a ≠ 75 := fun q => hn (by rw [q]; exact List.mem_cons_self)
          rw [s2 a j x1]; exact hk1 a j hn
      · right; right
        refine ⟨by rw [decide_eq_false c]; rfl, 0, px_u M' 73 0 2, ?_, px_u_in _ _ _ _, hk1.u 0 rfl List.mem_cons_self⟩
        unfold f_X12_lies_117
        rw [decide_eq_false c, show b2 (!false) = 1 from rfl, e_bad_t hz (by decide), bd1_e]; rfl
    · right; right
      have hcr : f_X2_isRowOfParts M p1 = some 0 := by
        unfold f_X2_isRowOfParts
        rw [if_neg]
        intro q
        have h9 := hus p1
        rw [q, hz7] at h9
        rcases (Nat.div_eq_zero_iff).mp h9.symm with x | x
        · exact absurd x (Nat.ne_of_gt (Nat.two_pow_pos _))
        · refine hr ⟨p1.toBitVec.toNat, x, ?_⟩
          apply Int32.toBitVec_inj.mp
          apply BitVec.eq_of_toNat_eq
          rw [pk_tn (by omega)]
      refine ⟨by rw [hc0, hcr]; rfl, 0, px_t M 2, ?_, px_t_in _ _, px_t_kp _ _⟩
      rw [hm0, hm42]
      by_cases q : p1 < 0
      · rw [if_pos q]
      · rw [if_neg q, if_neg]
        intro q2
        obtain ⟨v, hv, rfl⟩ := nI_of q
        exact hr ⟨v, (nI_ltI hv (by omega)).mp q2, rfl⟩
end LIES
