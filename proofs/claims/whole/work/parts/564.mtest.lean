/-! the reference's tests -/
section MTEST
variable {tx : Nat → Nat} {n : Nat} {M0 : px_M} {vals : Nat → Int32}
theorem not_we {p : Nat} (h : wd tx n p = 10631) : we tx n p = p + 3 := by
  have hg := we_ge (tx := tx) (n := n) p
  unfold wd at h
  by_cases e : we tx n p - p ≤ 5
  · rw [if_pos e, wcd_5 tx p e] at h
    have hlet : ∀ i, p + i < we tx n p → 97 ≤ tx (p + i) ∧ tx (p + i) ≤ 122 := fun i hi => (isSm_iff.mp (skp_mid (isSm tx n) 300 p (p + i) (by omega) hi)).2
    obtain ⟨l, hl⟩ : ∃ l, l = we tx n p - p := ⟨_, rfl⟩
    rw [← hl] at h e
    have q0 := hlet 0
    rw [Nat.add_zero] at q0
    have q1 := hlet 1
    have q2 := hlet 2
    have q3 := hlet 3
    have q4 := hlet 4
    unfold cd5 at h
    obtain rfl | rfl | rfl | rfl | rfl | rfl : l = 0 ∨ l = 1 ∨ l = 2 ∨ l = 3 ∨ l = 4 ∨ l = 5 := by omega
    all_goals simp at h
    all_goals omega
  · rw [if_neg e] at h
    omega
theorem zb_wk (hk : True) (k : Nat) (v z : Int32) (h : k = 304 ∨ k = 305) (hv : zb v = true) (hz : zb z = true) : zb (wk (nI k) v z) = true := by
  rcases h with rfl | rfl
  · rw [wk_or]
    rcases zb_of hv with rfl | rfl <;> rcases zb_of hz with rfl | rfl <;> decide
  · rw [wk_and]
    rcases zb_of hv with rfl | rfl <;> rcases zb_of hz with rfl | rfl <;> decide
theorem bl_B' {a B : Nat} (h : a ≤ n + B) : bl tx n a ≤ n + B := bl_B h
theorem m_ands (hI : RrI tx n M0 vals) {rd : px_M → Option (Int32 × px_M)} {o h : Nat} {P : Nat → Res} (hS : SpR tx n M0 vals 2 true rd o P) (hG : ∀ p, p ≤ n → GdR n h p (P p)) : SpR tx n M0 vals 2 true (o_X12_ands rd) o (pLo tx n P isAnd) := by
  have h300 := hI.1
  have ht := hI.bx
  obtain ⟨-, -, -, w1, -⟩ := wdc
  have hb1 : ∀ (v a o f g : Int32), f ≠ 0 → o_X12_ands_5 rd (rsM M0 a o f g) v = some (.inr (v, rsM M0 a o f g)) := by
    intro v a o f g hf
    unfold o_X12_ands_5
    rw [rs81, if_neg hf]
  have bk : ∀ p, (wI tx n p = nI 1111 ↔ kd tx n p = 305) := fun p => (wI_eq (nI 1111) rfl (by decide)).trans (kd_wd h300 ht (i := 5) (by decide)).symm
  have L := m_loop (body := fun a : Int32 × px_M => o_X12_ands_5 rd a.2 a.1) (B := 2) (bz := true) (J := fun _ => True) ht op_and (fun _ k v z ho hv hz => zb_wk trivial k v z (op_and' k ho) hv hz) hS hG hb1
    (fun v a ha _ hop => by
      have hbn := bl_le (tx := tx) ha
      refine ⟨bl tx n a, hbn, bl_bl h300 a, ?_⟩
      rw [isAnd_iff] at hop
      show o_X12_ands_5 rd (rsM M0 (nI a) (nI o) 0 (-1)) v = _
      unfold o_X12_ands_5
      rw [rs81, if_pos rfl, m_word hI (by omega) (by omega), bd1_e, w1, bd1_e, if_neg (fun z => hop ((bk _).mp z))])
    (fun v a ha _ hop hv => by
      have hbn := bl_le (tx := tx) ha
      have hop' := isAnd_iff.mp hop
      have hs := kd_sm ht (show 300 ≤ kd tx n (bl tx n a) by omega) (by omega)
      refine ⟨we tx n (bl tx n a), we_le hbn, by unfold tk; rw [nx_wrd hs], fun z a2 o' f' g' hz h2 hr => ⟨a2, fun h => h, h2, rfl, trivial, ?_⟩⟩
      show o_X12_ands_5 rd (rsM M0 (nI a) (nI o) 0 (-1)) v = _
      unfold o_X12_ands_5 o_X12_ands_49 o_X12_ands_50
      rw [rs81, if_pos rfl, m_word hI (by omega) (by omega), bd1_e, w1, bd1_e, if_pos ((bk _).mpr hop'), m_skip hI (by omega), bd1_e, hr, bd1_e, hop', wk_and]
      rcases zb_of (hv rfl) with rfl | rfl
      · rw [if_pos rfl]
        rcases zb_of (hz rfl) with rfl | rfl <;> rfl
      · rw [if_neg (show ¬ (1 : Int32) = 0 by decide)]
        rcases zb_of (hz rfl) with rfl | rfl <;> rfl)
  intro a ha
  obtain ⟨z, M1, g1, g2, g3⟩ := hS a ha
  have hG1 := hG (bl tx n a) (bl_le ha)
  unfold o_X12_ands pLo
  rw [g1, bd1_e]
  revert g2 hG1
  generalize P (bl tx n a) = r1
  intro g2 hG1
  match r1, g2, hG1 with
  | .inr e', g2, hG1 =>
    obtain ⟨a2, o', h2, rfl⟩ := g2
    rw [lpf_end (body := fun a : Int32 × px_M => o_X12_ands_5 rd a.2 a.1) (hb1 _ _ _ _ _ (nE hG1.1)), bd1_e, ok_t (g3 rfl)]
    exact ⟨_, _, rfl, ⟨a2, o', h2, rfl⟩, g3⟩
  | .inl (q, c2, v2), g2, hG1 =>
    obtain ⟨hv, a2, h2, h3, rfl⟩ := g2
    obtain ⟨G1, G2, -⟩ := hG1
    dsimp only at G1 G2 h3
    obtain ⟨z', M', l1, l2, l3⟩ := L 301 a2 c2 v2 z (by rw [h3]; omega) h2 trivial hv g3
    rw [h3] at l2
    rw [l1, bd1_e, ok_t (l3 rfl)]
    exact ⟨_, _, rfl, l2, l3⟩
theorem m_ors (hI : RrI tx n M0 vals) {rd : px_M → Option (Int32 × px_M)} {o h : Nat} {P : Nat → Res} (hS : SpR tx n M0 vals 2 true (o_X12_ands rd) o P) (hG : ∀ p, p ≤ n → GdR n h p (P p)) : SpR tx n M0 vals 2 true (o_X12_ors rd) o (pLo tx n P isOr) := by
  have h300 := hI.1
  have ht := hI.bx
  obtain ⟨-, -, -, -, w1, -⟩ := wdc
  have hb1 : ∀ (v a o f g : Int32), f ≠ 0 → o_X12_ors_5 rd (rsM M0 a o f g) v = some (.inr (v, rsM M0 a o f g)) := by
    intro v a o f g hf
    unfold o_X12_ors_5
    rw [rs81, if_neg hf]
  have bk : ∀ p, (wI tx n p = nI 423 ↔ kd tx n p = 304) := fun p => (wI_eq (nI 423) rfl (by decide)).trans (kd_wd h300 ht (i := 4) (by decide)).symm
  have L := m_loop (body := fun a : Int32 × px_M => o_X12_ors_5 rd a.2 a.1) (B := 2) (bz := true) (J := fun _ => True) ht op_or (fun _ k v z ho hv hz => zb_wk trivial k v z (op_or' k ho) hv hz) hS hG hb1
    (fun v a ha _ hop => by
      have hbn := bl_le (tx := tx) ha
      refine ⟨bl tx n a, hbn, bl_bl h300 a, ?_⟩
      rw [isOr_iff] at hop
      show o_X12_ors_5 rd (rsM M0 (nI a) (nI o) 0 (-1)) v = _
      unfold o_X12_ors_5
      rw [rs81, if_pos rfl, m_word hI (by omega) (by omega), bd1_e, w1, bd1_e, if_neg (fun z => hop ((bk _).mp z))])
    (fun v a ha _ hop hv => by
      have hbn := bl_le (tx := tx) ha
      have hop' := isOr_iff.mp hop
      have hs := kd_sm ht (show 300 ≤ kd tx n (bl tx n a) by omega) (by omega)
      refine ⟨we tx n (bl tx n a), we_le hbn, by unfold tk; rw [nx_wrd hs], fun z a2 o' f' g' hz h2 hr => ⟨a2, fun h => h, h2, rfl, trivial, ?_⟩⟩
      show o_X12_ors_5 rd (rsM M0 (nI a) (nI o) 0 (-1)) v = _
      unfold o_X12_ors_5 o_X12_ors_46 o_X12_ors_51
      rw [rs81, if_pos rfl, m_word hI (by omega) (by omega), bd1_e, w1, bd1_e, if_pos ((bk _).mpr hop'), m_skip hI (by omega), bd1_e, hr, bd1_e, hop', wk_or]
      rcases zb_of (hv rfl) with rfl | rfl
      · rw [if_pos rfl]
        rcases zb_of (hz rfl) with rfl | rfl <;> rfl
      · rw [if_neg (show ¬ (1 : Int32) = 0 by decide)]
        rcases zb_of (hz rfl) with rfl | rfl <;> rfl)
  intro a ha
  obtain ⟨z, M1, g1, g2, g3⟩ := hS a ha
  have hG1 := hG (bl tx n a) (bl_le ha)
  unfold o_X12_ors pLo
  rw [g1, bd1_e]
  revert g2 hG1
  generalize P (bl tx n a) = r1
  intro g2 hG1
  match r1, g2, hG1 with
  | .inr e', g2, hG1 =>
    obtain ⟨a2, o', h2, rfl⟩ := g2
    rw [lpf_end (body := fun a : Int32 × px_M => o_X12_ors_5 rd a.2 a.1) (hb1 _ _ _ _ _ (nE hG1.1)), bd1_e, ok_t (g3 rfl)]
    exact ⟨_, _, rfl, ⟨a2, o', h2, rfl⟩, g3⟩
  | .inl (q, c2, v2), g2, hG1 =>
    obtain ⟨hv, a2, h2, h3, rfl⟩ := g2
    obtain ⟨G1, G2, -⟩ := hG1
    dsimp only at G1 G2 h3
    obtain ⟨z', M', l1, l2, l3⟩ := L 301 a2 c2 v2 z (by rw [h3]; omega) h2 trivial hv g3
    rw [h3] at l2
    rw [l1, bd1_e, ok_t (l3 rfl)]
    exact ⟨_, _, rfl, l2, l3⟩
theorem m_ors_e {rd : px_M → Option (Int32 × px_M)} (hE : ErR M0 rd) : ErR M0 (o_X12_ors rd) := by
  intro a o f g hf
  have e1 : o_X12_ands rd (rsM M0 a o f g) = some (0, rsM M0 a o f g) := by
    unfold o_X12_ands
    rw [hE _ _ _ _ hf, bd1_e, lpf_end (body := fun a : Int32 × px_M => o_X12_ands_5 rd a.2 a.1) (b := (0, rsM M0 a o f g)) (by
      show o_X12_ands_5 rd (rsM M0 a o f g) 0 = _
      unfold o_X12_ands_5
      rw [rs81, if_neg hf]), bd1_e, ok_t zb0]
  unfold o_X12_ors
  rw [e1, bd1_e, lpf_end (body := fun a : Int32 × px_M => o_X12_ors_5 rd a.2 a.1) (b := (0, rsM M0 a o f g)) (by
    show o_X12_ors_5 rd (rsM M0 a o f g) 0 = _
    unfold o_X12_ors_5
    rw [rs81, if_neg hf]), bd1_e, ok_t zb0]
/-- the second half of a comparing, when something is wrong -/
theorem m_143_e (hI : RrI tx n M0 vals) {rd : px_M → Option (Int32 × px_M)} {a : Nat} (ha : a ≤ n) {o f g : Int32} (hf : f ≠ 0) (x1 x2 : Int32) : ∃ z a', a' ≤ n + 2 ∧ o_X12_test_143 rd (rsM M0 (nI a) o f g) x1 x2 = some (z, rsM M0 (nI a') o f g) ∧ zb z = true := by
  obtain ⟨a', h1, h2⟩ := m_sum_e hI (rd := f_X12_unit) (e_kUnit 8) (a + 1) 1 o f g (by omega) (by decide) hf
  unfold o_X12_test_143 o_X12_test_206
  rw [nm_u, nm_u, rs78, rsu78, nI_1, show f_X12_sum (rsM M0 (nI (a + 1)) o f g) = _ from h2, bd1_e, ok_t zb0, ok_t zb1]
  have key : ∀ z : Int32, zb z = true → ∃ z' a'', a'' ≤ n + 2 ∧ some (z, rsM M0 (nI a') o f g) = some (z', rsM M0 (nI a'') o f g) ∧ zb z' = true := fun z hz => ⟨z, a', by omega, rfl, hz⟩
  repeat' split
  all_goals first | exact key 0 zb0 | exact key 1 zb1
theorem m_test (hI : RrI tx n M0 vals) {rd : px_M → Option (Int32 × px_M)} {o h : Nat} {rc : Option (Nat → Res)} {su : Nat → Res} (hrc : ∀ P, rc = some P → (o < 6 ∧ SpR tx n M0 vals 2 true rd (o + 1) P) ∧ ∀ p, p ≤ n → GdR n (h + 1) p (P p)) (hno : rc = none → o = 6) (hE : ErR M0 rd) (hsu : SpR tx n M0 vals 0 false f_X12_sum o su) (hsG : ∀ p, p ≤ n → GdR n (h + 3) p (su p)) : SpR tx n M0 vals 2 true (o_X12_test rd) o (pTest tx n rc su) := by
  intro a ha
  have h300 := hI.1
  have ht := hI.bx
  have hbn := bl_le (tx := tx) ha
  have hbb := bl_bl (tx := tx) h300 a
  obtain ⟨-, -, w1, -⟩ := wdc
  have bk : ∀ p, (wI tx n p = nI 10631 ↔ kd tx n p = 306) := fun p => (wI_eq (nI 10631) rfl (by decide)).trans (kd_wd h300 ht (i := 6) (by decide)).symm
  unfold o_X12_test pTest
  rw [rs81, if_pos rfl, m_word hI (by omega) (by omega), bd1_e, w1, bd1_e]
  obtain ⟨p, ep⟩ : ∃ p, p = bl tx n a := ⟨_, rfl⟩
  rw [← ep] at hbn hbb ⊢
  by_cases c1 : kd tx n p = 306
  · have hs := kd_sm ht (show 300 ≤ kd tx n p by omega) (by omega)
    have hwe := not_we ((kd_wd h300 ht (i := 6) (by decide)).mp c1)
    have hw := we_le (tx := tx) hbn
    have htk : bl tx n (p + 3) = tk tx n p := by unfold tk; rw [nx_wrd hs, hwe]
    rw [if_pos ((bk p).mpr c1), if_pos c1]
    unfold o_X12_test_44
    match rc, hrc, hno with
    | none, _, hno =>
      obtain rfl := hno rfl
      rw [m_opens_x (k := 3) 3 rfl, bd1_e, hE _ _ _ _ (by decide), bd1_e, if_pos rfl, nm_u, nm_u, rsu80, ok_t zb1]
      exact ⟨_, _, rfl, ⟨p + 3, _, by omega, rfl⟩, fun _ => zb1⟩
    | some P, hrc, _ =>
      obtain ⟨⟨ho, hS⟩, hG⟩ := hrc P rfl
      dsimp only
      obtain ⟨z, M1, g1, g2, g3⟩ := hS (p + 3) (by omega)
      rw [m_opens_y (k := 3) ho 3 rfl, bd1_e, g1, bd1_e]
      have hz := zb_of (g3 rfl)
      have pick : ∀ M : px_M, (if z = 0 then nm (M 73 80 - 1) fun v_52 => nm (px_u M 73 80 v_52) fun M_52 => ok (zb 1) (some ((1 : Int32), M_52)) else nm (M 73 80 - 1) fun v_52 => nm (px_u M 73 80 v_52) fun M_52 => ok (zb 0) (some ((0 : Int32), M_52))) = some (1 - z, px_u M 73 80 (M 73 80 - 1)) := by
        intro M
        rcases hz with rfl | rfl
        · rw [if_pos rfl, nm_u, nm_u, ok_t zb1]; rfl
        · rw [if_neg (by decide), nm_u, nm_u, ok_t zb0]; rfl
      have hz1 : zb (1 - z) = true := by rcases hz with rfl | rfl <;> rfl
      dsimp only
      rw [pick]
      have hG1 := hG (tk tx n p) (tk_le hbn)
      rw [htk] at g2
      revert g2 hG1
      generalize P (tk tx n p) = r1
      intro g2 hG1
      match r1, g2, hG1 with
      | .inr e', g2, hG1 =>
        obtain ⟨a2, o', h2, rfl⟩ := g2
        rw [rs80, rsu80]
        exact ⟨_, _, rfl, ⟨a2, _, h2, rfl⟩, fun _ => hz1⟩
      | .inl (q, c2, v2), g2, hG1 =>
        obtain ⟨hv, a2, h2, h3, rfl⟩ := g2
        rw [rs80, rsu80, nI_pred]
        exact ⟨_, _, rfl, ⟨by rw [hv], a2, h2, h3, rfl⟩, fun _ => hz1⟩
  · rw [if_neg (fun z => c1 ((bk p).mp z)), if_neg c1]
    dsimp only
    rw [rs78, m_byte hI (by omega), bd1_e, ifi (kd_s hI 91 91 rfl (by decide) (by decide) (by decide))]
    by_cases c2 : kd tx n p = 91
    · obtain ⟨q1, q2⟩ := tk_sgn h300 (by decide) (by decide) (by decide) c2
      rw [if_pos c2, if_pos c2]
      match rc, hrc, hno with
      | none, _, hno =>
        obtain rfl := hno rfl
        obtain ⟨a1, h1, h2⟩ := m_sign_B hI (B := 0) (a := p + 1) (o := nI 7) (f := 3) (g := nI p) (by omega) (by decide) (c := 93) 93 rfl (by decide) (by decide)
        rw [m_opens_x (k := 1) 1 rfl, bd1_e, m_ors_e hE _ _ _ _ (by decide), bd1_e, h2, bd1_e, nm_u, nm_u, rsu80, ok_t zb0]
        exact ⟨_, _, rfl, ⟨a1, _, by omega, rfl⟩, fun _ => zb0⟩
      | some P, hrc, _ =>
        obtain ⟨⟨ho, hS⟩, hG⟩ := hrc P rfl
        dsimp only
        obtain ⟨z, M1, g1, g2, g3⟩ := m_ors hI (m_ands hI hS hG) (fun p hp => GdLo ht op_and hG hp) (p + 1) (by omega)
        rw [m_opens_y (k := 1) ho 1 rfl, bd1_e, g1, bd1_e]
        have hG1 : GdR n (h + 3) (tk tx n p) (pLo tx n (pLo tx n P isAnd) isOr (tk tx n p)) := GdLo ht op_or (h := h + 2) (fun p hp => GdLo ht op_and hG hp) (tk_le hbn)
        rw [q2] at g2
        unfold pChoice pBoth
        have eP : (fun p => pLo tx n P isAnd p) = pLo tx n P isAnd := rfl
        revert g2 hG1
        show _ → _ → ∃ z_1 M', _ ∧ ORr tx n M0 vals 2 o (rb (pLo tx n (pLo tx n P isAnd) isOr (tk tx n p)) _) z_1 M' ∧ _
        generalize pLo tx n (pLo tx n P isAnd) isOr (tk tx n p) = r1
        intro g2 hG1
        match r1, g2, hG1 with
        | .inr e', g2, hG1 =>
          obtain ⟨a2, o', h2, rfl⟩ := g2
          obtain ⟨a1, h3, h4⟩ := m_sign_B hI (B := 2) (a := a2) (o := o') (g := nI e'.2) h2 (by decide) (c := 93) 93 rfl (by decide) (nE hG1.1)
          rw [h4, bd1_e, nm_u, nm_u, rsu80, ok_t (g3 rfl)]
          exact ⟨_, _, rfl, ⟨a1, _, h3, rfl⟩, g3⟩
        | .inl (q, c2, v2), g2, hG1 =>
          obtain ⟨hv, a2, h2, h3, rfl⟩ := g2
          obtain ⟨G1, G2, -⟩ := hG1
          dsimp only at G1 G2 h3
          show ∃ z_1 M', _ ∧ ORr tx n M0 vals 2 o (if kd tx n q = 93 then _ else _) z_1 M' ∧ _
          by_cases k : kd tx n q = 93
          · obtain ⟨q3, q4⟩ := tk_sgn h300 (by decide) (by decide) (by decide) k
            have hb := (kd_byt h300 (c := 93) (by decide) (by decide) (by decide)).mp k
            rw [m_sign_y hI (c := 93) (by omega) (by omega) 93 rfl (by decide) (by rw [h3]; exact hb), bd1_e, nm_u, nm_u, rs80, rsu80, nI_pred, h3, ok_t (g3 rfl), if_pos k]
            exact ⟨_, _, rfl, ⟨hv, q + 1, by omega, q4, rfl⟩, g3⟩
          · have hb : ¬ byt tx n (bl tx n a2) = 93 := fun z => k ((kd_byt h300 (c := 93) (by decide) (by decide) (by decide)).mpr (by rw [← h3]; exact z))
            rw [m_sign_x hI (c := 93) (by omega) (by omega) 93 rfl (by decide) hb, bd1_e, nm_u, nm_u, rs80, rsu80, h3, ok_t (g3 rfl), if_neg k]
            exact ⟨_, _, rfl, ⟨q, _, by omega, rfl⟩, g3⟩
    · rw [if_neg c2, if_neg c2]
      obtain ⟨z, M1, g1, g2, -⟩ := hsu p hbn
      rw [g1, bd1_e]
      have hG1 := hsG p hbn
      rw [hbb] at g2
      revert g2 hG1
      generalize su p = r1
      intro g2 hG1
      have merge : ∀ (q : Nat) (X Y : Option (Int32 × px_M)), (if byI tx n q = 60 then X else if byI tx n q = 62 then X else if byI tx n q = 61 then X else Y) = if kd tx n q = 60 ∨ kd tx n q = 62 ∨ kd tx n q = 61 then X else Y := by
        intro q X Y
        rw [ifi (kd_s hI (p := q) 60 60 rfl (by decide) (by decide) (by decide)), ifi (kd_s hI (p := q) 62 62 rfl (by decide) (by decide) (by decide)), ifi (kd_s hI (p := q) 61 61 rfl (by decide) (by decide) (by decide))]
        by_cases k1 : kd tx n q = 60
        · rw [if_pos k1, if_pos (Or.inl k1)]
        · rw [if_neg k1]
          by_cases k2 : kd tx n q = 62
          · rw [if_pos k2, if_pos (Or.inr (Or.inl k2))]
          · rw [if_neg k2]
            by_cases k3 : kd tx n q = 61
            · rw [if_pos k3, if_pos (Or.inr (Or.inr k3))]
            · rw [if_neg k3, if_neg (by omega)]
      match r1, g2, hG1 with
      | .inr e', g2, hG1 =>
        obtain ⟨a2, o', h2, rfl⟩ := g2
        have hne := nE hG1.1
        have hb2 := bl_B (tx := tx) h2
        obtain ⟨z', a', h3, h4, h5⟩ := m_143_e hI (rd := rd) (a := bl tx n a2) (o := o') (g := nI e'.2) hb2 hne z (byI tx n (bl tx n a2))
        rw [m_blanks hI (by omega), bd1_e, rs78, m_byte hI (by omega), bd1_e, m_wrong1 hne, bd1_e, h4, ite_self, ite_self, ite_self]
        exact ⟨_, _, rfl, ⟨a', o', h3, rfl⟩, fun _ => h5⟩
      | .inl (q, c2, v2), g2, hG1 =>
        obtain ⟨hv, a2, h2, h3, rfl⟩ := g2
        obtain ⟨G1, G2, -⟩ := hG1
        dsimp only at G1 G2 h3 hv
        show ∃ z_1 M', _ ∧ ORr tx n M0 vals 2 o (if kd tx n q = 60 ∨ kd tx n q = 62 ∨ kd tx n q = 61 then _ else _) z_1 M' ∧ _
        rw [m_blanks hI (by omega), bd1_e, rs78, h3, m_byte hI (by omega), bd1_e, merge]
        by_cases k : kd tx n q = 60 ∨ kd tx n q = 62 ∨ kd tx n q = 61
        · have hqq : q < n ∧ bl tx n (q + 1) = tk tx n q := by
            rcases k with k | k | k
            · exact tk_sgn h300 (by decide) (by decide) (by decide) k
            · exact tk_sgn h300 (by decide) (by decide) (by decide) k
            · exact tk_sgn h300 (by decide) (by decide) (by decide) k
          rw [if_pos k, if_pos k]
          unfold o_X12_test_143 o_X12_test_206
          obtain ⟨z2, M2, g4, g5, -⟩ := hsu (q + 1) (by omega)
          rw [nm_u, nm_u, rs78, rsu78, nI_1, g4, bd1_e, ok_t zb0, ok_t zb1]
          have b60 : byI tx n q = 60 ↔ kd tx n q = 60 := kd_s hI 60 60 rfl (by decide) (by decide) (by decide)
          have b62 : byI tx n q = 62 ↔ kd tx n q = 62 := kd_s hI 62 62 rfl (by decide) (by decide) (by decide)
          have val : (if byI tx n q = 60 then (if z2 ≤ z then some ((0 : Int32), M2) else some (1, M2)) else if byI tx n q = 62 then (if z ≤ z2 then some (0, M2) else some (1, M2)) else if z = z2 then some (1, M2) else some (0, M2)) = some (wk (nI (kd tx n q)) z z2, M2) := by
            rcases k with k | k | k
            · rw [if_pos (b60.mpr k), k, wk_lt]
              split <;> rfl
            · rw [if_neg (fun z => absurd (b60.mp z) (by omega)), if_pos (b62.mpr k), k, wk_gt]
              split <;> rfl
            · rw [if_neg (fun z => absurd (b60.mp z) (by omega)), if_neg (fun z => absurd (b62.mp z) (by omega)), k, wk_eq]
              split <;> rfl
          have hzb : zb (wk (nI (kd tx n q)) z z2) = true := by
            rcases k with k | k | k
            · rw [k, wk_lt]; split <;> rfl
            · rw [k, wk_gt]; split <;> rfl
            · rw [k, wk_eq]; split <;> rfl
          show ∃ z_1 M', (if byI tx n q = 60 then (if z2 ≤ z then some ((0 : Int32), M2) else some (1, M2)) else if byI tx n q = 62 then (if z ≤ z2 then some (0, M2) else some (1, M2)) else if z = z2 then some (1, M2) else some (0, M2)) = some (z_1, M') ∧ _
          rw [val]
          have hG2 := hsG (tk tx n q) (tk_le G2)
          rw [hqq.2] at g5
          revert g5 hG2
          generalize su (tk tx n q) = r2
          intro g5 hG2
          match r2, g5, hG2 with
          | .inr e', g5, hG2 =>
            obtain ⟨a3, o3, h4, rfl⟩ := g5
            exact ⟨_, _, rfl, ⟨a3, o3, by omega, rfl⟩, fun _ => hzb⟩
          | .inl (q2, c3, v3), g5, hG2 =>
            obtain ⟨hv3, a3, h4, h5, rfl⟩ := g5
            exact ⟨_, _, rfl, ⟨by rw [hv, hv3], a3, h4, h5, rfl⟩, fun _ => hzb⟩
        · rw [if_neg k, if_neg k, m_wrong0, bd1_e]
          obtain ⟨z', a', h4, h5, h6⟩ := m_143_e hI (rd := rd) (a := q) (o := nI o) (f := 1) (g := nI q) G2 (by decide) z (byI tx n q)
          rw [h5]
          exact ⟨_, _, rfl, ⟨a', _, h4, rfl⟩, fun _ => h6⟩
theorem e_kTest (k : Nat) : ErR M0 (k_X12_test (k + 1)) := by
  intro a o f g hf
  show o_X12_test _ _ = _
  unfold o_X12_test
  rw [rs81, if_neg hf]
theorem m_kTest (hI : RrI tx n M0 vals) : ∀ (g o k : Nat), g + o = 6 → g + 2 ≤ k → SpR tx n M0 vals 2 true (k_X12_test k) o (pT tx n g)
  | 0, o, k, ho, hk => by
    obtain ⟨k, rfl⟩ : ∃ j, k = j + 2 := ⟨k - 2, by omega⟩
    have ht := hI.bx
    exact m_test hI (h := 0) (rc := none) (rd := k_X12_test (k + 1)) (fun P e => absurd e (by simp)) (fun _ => by omega) (e_kTest k) (m_kUnit hI 0 o 9 (by omega) (by omega)).2 (fun p hp => GdpS ht 0 hp)
  | g + 1, o, k, ho, hk => by
    obtain ⟨k, rfl⟩ : ∃ j, k = j + 2 := ⟨k - 2, by omega⟩
    have ht := hI.bx
    refine m_test hI (h := 3 * (g + 1)) (rc := some (pT tx n g)) (rd := k_X12_test (k + 1)) (fun P e => ?_) (fun e => absurd e (by simp)) (e_kTest k) (m_kUnit hI (g + 1) o 9 (by omega) (by omega)).2 (fun p hp => GdpS ht (g + 1) hp)
    obtain rfl : pT tx n g = P := Option.some.inj e
    exact ⟨⟨by omega, m_kTest hI g (o + 1) (k + 1) (by omega) (by omega)⟩, fun p hp => GdpT ht g hp⟩
theorem m_top (hI : RrI tx n M0 vals) : SpR tx n M0 vals 2 true f_X12_ors 0 (pChoice tx n (pT tx n 6)) := by
  have ht := hI.bx
  exact m_ors hI (m_ands hI (m_kTest hI 6 0 9 (by omega) (by omega)) (fun p hp => GdpT ht 6 hp)) (fun p hp => GdpB ht 6 hp)
theorem m_top_e : ErR M0 f_X12_ors := m_ors_e (e_kTest 8)
end MTEST
