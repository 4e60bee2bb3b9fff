/-! whole texts of rules: the reference -/
def rhM (M0 : px_M) (h s k : Int32) : px_M := fun c j => if c = 73 then (if j = 83 then h else if j = 84 then s else if j = 85 then k else M0 73 j) else M0 c j
section RH
variable {M0 : px_M} {h s k a o f g : Int32}
theorem rh83 : rsM (rhM M0 h s k) a o f g 73 83 = h := rfl
theorem rh84 : rsM (rhM M0 h s k) a o f g 73 84 = s := rfl
theorem rh85 : rsM (rhM M0 h s k) a o f g 73 85 = k := rfl
theorem rhu83 (v : Int32) : px_u (rsM (rhM M0 h s k) a o f g) 73 83 v = rsM (rhM M0 v s k) a o f g := by
  funext c j
  unfold px_u rsM rhM
  by_cases h1 : c = 73
  · by_cases h2 : j = 83
    · simp [h1, h2]
    · simp [h1, h2]
  · simp [h1]
theorem rhu84 (v : Int32) : px_u (rsM (rhM M0 h s k) a o f g) 73 84 v = rsM (rhM M0 h v k) a o f g := by
  funext c j
  unfold px_u rsM rhM
  by_cases h1 : c = 73
  · by_cases h2 : j = 84
    · simp [h1, h2]
    · simp [h1, h2]
  · simp [h1]
theorem rhu85 (v : Int32) : px_u (rsM (rhM M0 h s k) a o f g) 73 85 v = rsM (rhM M0 h s v) a o f g := by
  funext c j
  unfold px_u rsM rhM
  by_cases h1 : c = 73
  · by_cases h2 : j = 85
    · simp [h1, h2]
    · simp [h1, h2]
  · simp [h1]
end RH
/-- which rule is held, and its steer -/
def hlS (vals : Nat → Int32) (x : Int32 × Int32) (i : Nat) (r : Rul) : Int32 × Int32 := if r.2.2 vals = 0 then x else if x.1 = -1 then (nI i, nI r.1) else x
def hlF (vals : Nat → Int32) : List Rul → Nat → Int32 × Int32 → Int32 × Int32
  | [], _, x => x
  | r :: L, i, x => hlF vals L (i + 1) (hlS vals x i r)
/-- what the reference's reader needs, whatever is held -/
def RqI (tx : Nat → Nat) (n : Nat) (M0 : px_M) (vals : Nat → Int32) : Prop := n ≤ 300 ∧ M0 73 79 = nI n ∧ (∀ i, i < n → (if M0 73 77 = 0 then M0 177 i else M0 178 i) = nI (tx i) ∧ tx i < 256) ∧ ∀ M' : px_M, (∀ c j, ¬ (c = 73 ∧ 78 ≤ j ∧ j ≤ 85 ∧ j ≠ 79) → M' c j = M0 c j) → ∀ k, k < 7 → f_X12_named M' (nI k) = some (vals k)
section MRULE
variable {tx : Nat → Nat} {n : Nat} {M0 : px_M} {vals : Nat → Int32}
theorem RqI.r (hI : RqI tx n M0 vals) (h s k : Int32) : RrI tx n (rhM M0 h s k) vals := by
  obtain ⟨h1, h2, h3, h4⟩ := hI
  refine ⟨h1, h2, h3, fun a o f g k' hk => h4 _ (fun c j hn => ?_) k' hk⟩
  unfold rsM rhM
  by_cases e : c = 73
  · subst e
    simp only [if_true, if_pos]
    repeat' split
    all_goals first | rfl | (exfalso; exact hn ⟨rfl, by omega, by omega, by omega⟩)
  · rw [if_neg e, if_neg e]
theorem m_251 (hI : RqI tx n M0 vals) {a : Nat} (ha : a ≤ n + 2) (h s k o f g : Int32) : f_X12_readAll_251 (rsM (rhM M0 h s k) (nI a) o f g) = some (.inl (rsM (rhM M0 h s (k + 1)) (nI (bl tx n a)) o f g)) := by
  have h300 := hI.1
  unfold f_X12_readAll_251
  rw [nm_u, rh85, nm_u, rhu85, m_blanks (hI.r _ _ _) (by omega), bd1_e]
theorem m_201_e (hI : RqI tx n M0 vals) {a : Nat} (ha : a ≤ n + 2) {f : Int32} (hf : f ≠ 0) (h s k o g x2 : Int32) : f_X12_readAll_201 (rsM (rhM M0 h s k) (nI a) o f g) x2 = some (.inl (rsM (rhM M0 h s (k + 1)) (nI (bl tx n a)) o f g)) := by
  have hf' : ¬ rsM (rhM M0 h s k) (nI a) o f g 73 81 = 0 := hf
  unfold f_X12_readAll_201
  rw [m_top_e _ _ _ _ hf, bd1_e]
  dsimp only
  rw [if_neg hf']
  unfold f_X12_readAll_219
  rw [if_neg hf', m_251 hI ha]
/-- one rule -/
theorem m_rule (hI : RqI tx n M0 vals) {p k : Nat} (hp : p ≤ n) (hb : bl tx n p = p) (hk : k ≤ 16) (h18 : ¬ kd tx n p = 318) (h s : Int32) :
    ∃ M', f_X12_readAll_39 (rsM (rhM M0 h s (nI k)) (nI p) (nI 0) 0 (-1)) = some (.inl M') ∧ match pRule tx n p k with
      | .inl t => bl tx n t.1 = t.1 ∧ M' = rsM (rhM M0 (hlS vals (h, s) k t.2).1 (hlS vals (h, s) k t.2).2 (nI (k + 1))) (nI t.1) (nI 0) 0 (-1)
      | .inr e => (e.1 = 1 ∨ e.1 = 2 ∨ e.1 = 3) ∧ ∃ h' s' k' a o, M' = rsM (rhM M0 h' s' k') a o (nI e.1) (nI e.2) := by
  have h300 := hI.1
  have hr := hI.r h s (nI k)
  have ht := hr.bx
  have hpn : p < n := by
    by_cases e : n ≤ p
    · exact absurd (kd_o e) h18
    · omega
  obtain ⟨-, -, -, -, -, w0, w1, w2, w3⟩ := wdc
  have b0 : wI tx n p = nI 257 ↔ kd tx n p = 300 := (wI_eq (nI 257) rfl (by decide)).trans (kd_wd h300 ht (i := 0) (by decide)).symm
  have b1 : wI tx n p = nI 220309 ↔ kd tx n p = 301 := (wI_eq (nI 220309) rfl (by decide)).trans (kd_wd h300 ht (i := 1) (by decide)).symm
  have b2 : wI tx n p = nI 11522 ↔ kd tx n p = 302 := (wI_eq (nI 11522) rfl (by decide)).trans (kd_wd h300 ht (i := 2) (by decide)).symm
  have b3 : ∀ q, (wI tx n q = nI 249 ↔ kd tx n q = 303) := fun q => (wI_eq (nI 249) rfl (by decide)).trans (kd_wd h300 ht (i := 3) (by decide)).symm
  have start : f_X12_readAll_39 (rsM (rhM M0 h s (nI k)) (nI p) (nI 0) 0 (-1)) = f_X12_readAll_118 (rsM (rhM M0 h s (nI k)) (nI p) (nI 0) 0 (-1)) (if 300 ≤ kd tx n p ∧ kd tx n p ≤ 302 then nI (kd tx n p - 300) else -1) := by
    unfold f_X12_readAll_39
    rw [rs81, if_pos rfl, rs79, show rhM M0 h s (nI k) 73 79 = nI n from hI.2.1, rs78, if_neg (nI_ge hpn (by omega)), m_word hr (by omega) (by rw [hb]; omega), bd1_e, w0, bd1_e, w1, bd1_e, w2, bd1_e, hb]
    by_cases c0 : kd tx n p = 300
    · rw [if_pos (b0.mpr c0), if_pos (by omega), c0]; rfl
    · rw [if_neg (fun z => c0 (b0.mp z))]
      by_cases c1 : kd tx n p = 301
      · rw [if_pos (b1.mpr c1), if_pos (by omega), c1]; rfl
      · rw [if_neg (fun z => c1 (b1.mp z))]
        by_cases c2 : kd tx n p = 302
        · rw [if_pos (b2.mpr c2), if_pos (by omega), c2]; rfl
        · rw [if_neg (fun z => c2 (b2.mp z)), if_neg (by omega)]
  have tail : ∀ (a : Nat) (o x2 e g : Int32), a ≤ n + 2 → e ≠ 0 → f_X12_readAll_161 (rsM (rhM M0 h s (nI k)) (nI a) o e g) x2 = some (.inl (rsM (rhM M0 h s (nI k + 1)) (nI (bl tx n a)) o e g)) := by
    intro a o x2 e g ha he
    unfold f_X12_readAll_161
    rw [rs81, if_neg he, m_201_e hI ha he]
  rw [start]
  unfold f_X12_readAll_118 pRule
  by_cases c1 : 300 ≤ kd tx n p ∧ kd tx n p ≤ 302
  · have hs := kd_sm ht (show 300 ≤ kd tx n p by omega) (by omega)
    rw [if_pos c1, if_pos c1, if_neg (nI_ne1 (by omega)), rh85, ifi (eqL (a := k) (b := 16) 16 rfl (by omega) (by decide))]
    by_cases c2 : k = 16
    · rw [if_pos c2, if_pos c2, m_wrong0, bd1_e, tail p _ _ _ _ (by omega) (by decide)]
      exact ⟨_, rfl, Or.inr (Or.inr rfl), _, _, _, _, _, rfl⟩
    · have hw := we_le (tx := tx) hp
      have htk : bl tx n (we tx n p) = tk tx n p := by unfold tk; rw [nx_wrd hs]
      have hk2 := tk_le (tx := tx) hp
      rw [if_neg c2, if_neg c2, m_skip hr (by omega), bd1_e]
      unfold f_X12_readAll_161
      rw [rs81, if_pos rfl, m_word hr (by omega) (by rw [htk]; omega), bd1_e, w3, bd1_e, htk]
      by_cases c3 : kd tx n (tk tx n p) = 303
      · have hs2 := kd_sm ht (show 300 ≤ kd tx n (tk tx n p) by omega) (by omega)
        have hw2 := we_le (tx := tx) hk2
        have htk2 : bl tx n (we tx n (tk tx n p)) = tk tx n (tk tx n p) := by
          show bl tx n (we tx n (tk tx n p)) = bl tx n (nx tx n (tk tx n p))
          rw [nx_wrd hs2]
        rw [if_pos ((b3 _).mpr c3), if_pos c3, m_skip hr (by omega), bd1_e]
        unfold f_X12_readAll_201
        obtain ⟨z, M1, g1, g2, g3⟩ := m_top hr (we tx n (tk tx n p)) hw2
        rw [g1, bd1_e]
        dsimp only
        have hG := GdpC ht 6 (tk_le (tx := tx) hk2)
        rw [htk2] at g2
        revert g2 hG
        generalize pChoice tx n (pT tx n 6) (tk tx n (tk tx n p)) = r1
        intro g2 hG
        match r1, g2, hG with
        | .inr e', g2, hG =>
          obtain ⟨a2, o', h2, rfl⟩ := g2
          have hne := nE hG.1
          have hf' : ¬ rsM (rhM M0 h s (nI k)) (nI a2) o' (nI e'.1) (nI e'.2) 73 81 = 0 := hne
          rw [if_neg hf']
          unfold f_X12_readAll_219
          rw [if_neg hf', m_251 hI h2]
          exact ⟨_, rfl, hG.1, _, _, _, _, _, rfl⟩
        | .inl (q, c2, v2), g2, hG =>
          obtain ⟨hv, a2, h2, h3, rfl⟩ := g2
          obtain ⟨G1, G2, -⟩ := hG
          dsimp only at G1 G2 h3 hv ⊢
          rw [if_pos (show rsM (rhM M0 h s (nI k)) (nI a2) (nI 0) 0 (-1) 73 81 = 0 from rfl)]
          by_cases c4 : kd tx n q = 59
          · obtain ⟨q3, q4⟩ := tk_sgn h300 (by decide) (by decide) (by decide) c4
            have hb4 := (kd_byt h300 (c := 59) (by decide) (by decide) (by decide)).mp c4
            rw [m_sign_y hr (c := 59) (by omega) (by omega) 59 rfl (by decide) (by rw [h3]; exact hb4), bd1_e, h3, if_pos c4]
            dsimp only
            unfold f_X12_readAll_219
            rw [rs81, if_pos rfl, rh83, nm_u, rh85, nm_u, rhu83, nm_u, rhu84, m_251 hI (by omega), m_251 hI (by omega), nI_1, q4]
            unfold hlS
            dsimp only
            subst hv
            by_cases z0 : v2 vals = 0
            · rw [if_pos z0, if_pos z0]
              exact ⟨_, rfl, tk_bl h300 q, rfl⟩
            · rw [if_neg z0, if_neg z0]
              by_cases hh : h = -1
              · rw [if_pos hh, if_pos hh]
                exact ⟨_, rfl, tk_bl h300 q, rfl⟩
              · rw [if_neg hh, if_neg hh]
                exact ⟨_, rfl, tk_bl h300 q, rfl⟩
          · have hb4 : ¬ byt tx n (bl tx n a2) = 59 := fun z => c4 ((kd_byt h300 (c := 59) (by decide) (by decide) (by decide)).mpr (by rw [← h3]; exact z))
            rw [m_sign_x hr (c := 59) (by omega) (by omega) 59 rfl (by decide) hb4, bd1_e, h3, if_neg c4]
            dsimp only
            unfold f_X12_readAll_219
            rw [rs81, if_neg (by decide), m_251 hI (by omega)]
            exact ⟨_, rfl, Or.inl rfl, _, _, _, _, _, rfl⟩
      · rw [if_neg (fun z => c3 ((b3 _).mp z)), if_neg c3]
        dsimp only
        rw [rs78, m_wrong0, bd1_e, m_201_e hI (by omega) (by decide)]
        exact ⟨_, rfl, Or.inl rfl, _, _, _, _, _, rfl⟩
  · rw [if_neg c1, if_neg c1, if_pos rfl, m_wrong0, bd1_e, tail p _ _ _ _ (by omega) (by decide)]
    exact ⟨_, rfl, Or.inl rfl, _, _, _, _, _, rfl⟩
theorem m_rules (hI : RqI tx n M0 vals) : ∀ (f k p : Nat) (h s : Int32), f + k = 17 → k ≤ 16 → p ≤ n → bl tx n p = p → (∀ k' p', k' < 17 → ∀ t, pRule tx n p' k' = .inl t → p' ≤ n → t.1 ≤ n ∧ k' < 16) →
    ∃ M', lpf (fun a : px_M => f_X12_readAll_39 a) (rsM (rhM M0 h s (nI k)) (nI p) (nI 0) 0 (-1)) = some M' ∧ match pRules tx n f p k with
      | .inl L => ∃ a, M' = rsM (rhM M0 (hlF vals L k (h, s)).1 (hlF vals L k (h, s)).2 (nI (k + L.length))) a (nI 0) 0 (-1)
      | .inr e => (e.1 = 1 ∨ e.1 = 2 ∨ e.1 = 3) ∧ ∃ h' s' k' a o, M' = rsM (rhM M0 h' s' k') a o (nI e.1) (nI e.2)
  | 0, k, p, h, s, hf, hk, hp, hb, hq => absurd hf (by omega)
  | f + 1, k, p, h, s, hf, hk, hp, hb, hq => by
    have h300 := hI.1
    have ht := (hI.r h s (nI k)).bx
    unfold pRules
    by_cases c1 : kd tx n p = 318
    · rw [if_pos c1]
      have hn := (kd_end ht).mp c1
      refine ⟨_, lpf_end (body := fun a : px_M => f_X12_readAll_39 a) (b := rsM (rhM M0 h s (nI k)) (nI p) (nI 0) 0 (-1)) ?_, nI p, rfl⟩
      show f_X12_readAll_39 _ = _
      unfold f_X12_readAll_39
      rw [rs81, if_pos rfl, rs79, show rhM M0 h s (nI k) 73 79 = nI n from hI.2.1, rs78, if_pos (nI_le hn (by omega))]
    · rw [if_neg c1]
      obtain ⟨M1, g1, g2⟩ := m_rule hI hp hb hk c1 h s
      rw [lpf_go (body := fun a : px_M => f_X12_readAll_39 a) g1]
      have hq1 := hq k p (by omega)
      revert g2 hq1
      generalize pRule tx n p k = r1
      intro g2 hq1
      match r1, g2, hq1 with
      | .inr e, g2, _ =>
        obtain ⟨q1, h', s', k', a', o', rfl⟩ := g2
        refine ⟨_, lpf_end (body := fun a : px_M => f_X12_readAll_39 a) (b := rsM (rhM M0 h' s' k') a' o' (nI e.1) (nI e.2)) ?_, q1, _, _, _, _, _, rfl⟩
        show f_X12_readAll_39 _ = _
        unfold f_X12_readAll_39
        rw [rs81, if_neg (nE q1)]
      | .inl t, g2, hq1 =>
        obtain ⟨q1, rfl⟩ := g2
        obtain ⟨q2, q3⟩ := hq1 t rfl hp
        obtain ⟨M', k1, k2⟩ := m_rules hI f (k + 1) t.1 (hlS vals (h, s) k t.2).1 (hlS vals (h, s) k t.2).2 (by omega) (by omega) q2 q1 hq
        refine ⟨M', k1, ?_⟩
        dsimp only
        revert k2
        generalize pRules tx n f t.1 (k + 1) = r2
        intro k2
        match r2, k2 with
        | .inr e, k2 => exact k2
        | .inl L', k2 =>
          obtain ⟨a, rfl⟩ := k2
          refine ⟨a, ?_⟩
          rw [show k + 1 + L'.length = k + (t.2 :: L').length by simp; omega]
          rfl
end MRULE
