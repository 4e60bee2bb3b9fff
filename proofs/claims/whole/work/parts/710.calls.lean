/-! each call of the law keeps the joint invariant; and class and reference answer alike -/
section CALLS
variable {X : Nat × (Nat → Int32)} {c : Nat} {sh : px_Sh} {M : px_M} {L : px_L} {R : px_R} {n cu su : Nat}
theorem NetO.k {nk nt : Nat} {M2 : px_M} {L2 : px_L} {R1 : px_R} (h : NetO sh M L R nk nt M2 L2 R1) : kp sh [6] M M2 ∧ kp sh [6] L L2 ∧ kp sh [6] R R1 ∧ I6 sh M2 L2 R1 := by
  obtain ⟨h1, h2, h3, ⟨bb, h4⟩, h5, h6⟩ := h
  have z : ∀ c j, md sh c j ∉ [0, 6] → ∀ k, md sh c j = k → k ≠ 0 ∧ k ≠ 6 := fun c j q k e => ⟨fun z => q (by rw [e, z]; decide), fun z => q (by rw [e, z]; decide)⟩
  refine ⟨fun c j q => h1 c j (fun e => ?_) (fun e => ?_) (fun e => ?_), fun c j q => h2 c j (fun e => ?_) (fun e => ?_) (fun e => ?_) (fun e => ?_) (fun e => ?_), fun c j q => h3 c j (fun e => ?_), nk, nt, bb, h5, h6, h4⟩
  · rw [e.1] at q; exact q (by show (6 : Nat) ∈ [0, 6]; decide)
  · rw [e] at q; exact q (by show (0 : Nat) ∈ [0, 6]; decide)
  · rw [e.1, e.2] at q; exact q (by show (0 : Nat) ∈ [0, 6]; decide)
  · refine q ?_
    have : mdc c = 0 := by
      have : ∀ c, c < 61 → 49 ≤ c → mdc c = 0 := by decide +kernel
      exact this c (by omega) (by omega)
    unfold md
    rw [if_pos (by omega), if_neg (by omega), this]
    decide
  · rw [e] at q; exact q (by show (6 : Nat) ∈ [0, 6]; decide)
  · rcases e with ⟨rfl, rfl | rfl⟩
    · exact q (by show (0 : Nat) ∈ [0, 6]; decide)
    · exact q (by show (0 : Nat) ∈ [0, 6]; decide)
  · refine q ?_
    have : mdc c = 0 := by
      have : ∀ c, c < 215 → 200 ≤ c → mdc c = 0 := by decide +kernel
      exact this c (by omega) (by omega)
    unfold md
    rw [if_pos (by omega), if_neg (by omega), this]
    decide
  · rw [e] at q; exact q (by show (0 : Nat) ∈ [0, 6]; decide)
  · rw [e] at q; exact q (by show (6 : Nat) ∈ [0, 6]; decide)
theorem safe_thr {fn fu fo : Nat} {frow : List Nat} (hF : FoldI M fn fu fo frow) (h : IA c sh M L R n cu su) {p1 : Int32} (a1 : f_X11_safe M p1 = some (.inr 1)) {n' : Nat} (hn : n ≤ n') : f_X12_safe sh M L R n' p1 = some (0, sh, px_t M 1, L, R, n') := by
  rcases p_safe (sh := sh) (L := L) (R := R) hF (Nat.le_trans h.1.2.1 hn) (h.1.2.2 n' hn) p1 with ⟨r, M1, M2, b1, -⟩ | ⟨-, a2⟩
  · rw [a1] at b1; cases b1
  · exact a2
theorem trim_thr {np nf : Nat} {pa fp : Nat → Nat} (hA : SailI sh M R np nf pa fp) (h : IA c sh M L R n cu su) {p1 p2 : Int32} (a1 : f_X11_trim sh M R p1 p2 = some (.inr 0)) {n' : Nat} (hn : n ≤ n') : f_X12_trim sh M L R n' p1 p2 = some (0, sh, px_t M 1, L, R, n') := by
  rcases p_trim (L := L) ⟨np, nf, pa, fp, hA⟩ h.1.1 (Nat.le_trans h.1.2.1 hn) (h.1.2.2 n' hn) (h.1.2.2 (n' + 1) (by omega)) p1 p2 with ⟨r, M1, M2, b1, -⟩ | ⟨-, a2⟩
  · rw [a1] at b1; cases b1
  · exact a2
theorem k_strip (h : IA c sh M L R n cu su) (p1 p2 : Int32) : KI X yL_strip cL_strip 5 [(0, 10, 13, 13)] yX12_strip cX12_strip 4 (some .int) [.ref 0, .int p1, .int p2, .ref 219] [.ref 73, .int p1, .int p2] bvI c sh M L R n cu su := by
  have hS := h.1.1
  rcases p_strip (sh := sh) (M := M) p1 p2 with ⟨r, M1, M2, a1, a2, a3, a4, a5⟩ | ⟨a1, a2⟩
  · exact KI.ret (w_strip hS (by omega) a1) (fun _ _ _ _ _ _ q => q) (fun _ _ _ _ _ _ _ => hS) (fun hS => s_X12_strip hS (by omega) a2) (fun _ _ _ _ _ _ q => q) (by omega) a3 ⟨_, rfl, rfl⟩ (px_u_in _ _ _ _) (fun hS => h.go (ks := [1]) a4 (kp.rf.o _) kp.rf (fun _ _ q => q) h.1 (by omega) (Or.inl (by omega)) (fun _ => a5) (fun q => absurd q (by decide)) (fun q => absurd q (by decide)) (fun q => absurd q (by decide)) (fun q => absurd q (by decide)) (fun q => absurd q (by decide)))
  · exact KI.thr h (w_strip_x0 hS (by omega) a1) (by decide) (by omega) (fun n' hn' => s_X12_strip hS (by omega) a2) (fun _ _ _ _ _ _ _ q => q) (px_t_in M _) ⟨_, rfl, rfl⟩ (px_t_kp M _)
theorem k_lies (h : IA c sh M L R n cu su) (p1 : Int32) : KI X yL_lies cL_lies 4 [(0, 16, 19, 19), (0, 16, 22, 13)] yX12_lies cX12_lies 4 (some .boolean) [.ref 0, .int p1, .ref 219] [.ref 73, .int p1] bvZ c sh M L R n cu su := by
  have hS := h.1.1
  obtain ⟨fn, fu, fo, frow, hF⟩ := h.2.1
  rcases p_lies (sh := sh) hF p1 with ⟨r, M2, a1, a2, -, a3, a4⟩ | ⟨a1, b, M2, a2, a3, a4⟩ | ⟨a1, b, M2, a2, a3, a4⟩
  · exact KI.ret (w_lies hS (by omega) a1) (fun _ _ _ _ _ _ q => q) (fun _ _ _ _ _ _ _ => hS) (fun hS => s_X12_lies hS (by omega) a2) (fun _ _ _ _ _ _ q => q) (by omega) a3 ⟨_, rfl, rfl⟩ (px_u_in _ _ _ _) (fun hS => h.go (ks := []) a4 (kp.rf.o _) kp.rf (fun _ _ q => q) h.1 (by omega) (Or.inl (by omega)) (fun q => absurd q (by decide)) (fun q => absurd q (by decide)) (fun q => absurd q (by decide)) (fun q => absurd q (by decide)) (fun q => absurd q (by decide)) (fun q => absurd q (by decide)))
  · exact KI.thr h (w_lies_x1 hS (by omega) a1) (by decide) (by omega) (fun n' hn' => s_X12_lies hS (by omega) a2) (fun _ _ _ _ _ _ _ q => q) a3 ⟨_, rfl, rfl⟩ a4
  · exact KI.thr h (w_lies_x0 hS (by omega) a1) (by decide) (by omega) (fun n' hn' => s_X12_lies hS (by omega) a2) (fun _ _ _ _ _ _ _ q => q) a3 ⟨_, rfl, rfl⟩ a4
theorem k_clear (h : IA c sh M L R n cu su) (p1 : Int32) : KI X yL_clear cL_clear 4 [(0, 16, 19, 19), (0, 16, 22, 24), (0, 16, 25, 13)] yX12_clear cX12_clear 2 (some .boolean) [.ref 0, .int p1, .ref 219] [.ref 73, .int p1] bvZ c sh M L R n cu su := by
  have hS := h.1.1
  obtain ⟨fn, fu, fo, frow, hF⟩ := h.2.1
  rcases p_clear (sh := sh) hF p1 with ⟨r, M2, a1, a2, -, a3, a4⟩ | ⟨a1, a2⟩ | ⟨a1, a2⟩ | ⟨a1, a2⟩
  · exact KI.ret (w_clear hS (by omega) a1) (fun _ _ _ _ _ _ q => q) (fun _ _ _ _ _ _ _ => hS) (fun hS => s_X12_clear hS (by omega) a2) (fun _ _ _ _ _ _ q => q) (by omega) a3 ⟨_, rfl, rfl⟩ (px_u_in _ _ _ _) (fun hS => h.go (ks := []) a4 (kp.rf.o _) kp.rf (fun _ _ q => q) h.1 (by omega) (Or.inl (by omega)) (fun q => absurd q (by decide)) (fun q => absurd q (by decide)) (fun q => absurd q (by decide)) (fun q => absurd q (by decide)) (fun q => absurd q (by decide)) (fun q => absurd q (by decide)))
  · exact KI.thr h (w_clear_x1 hS (by omega) a1) (by decide) (by omega) (fun n' hn' => s_X12_clear hS (by omega) a2) (fun _ _ _ _ _ _ _ q => q) (px_t_in M _) ⟨_, rfl, rfl⟩ (px_t_kp M _)
  · exact KI.thr h (w_clear_x2 hS (by omega) a1) (by decide) (by omega) (fun n' hn' => s_X12_clear hS (by omega) a2) (fun _ _ _ _ _ _ _ q => q) (px_t_in M _) ⟨_, rfl, rfl⟩ (px_t_kp M _)
  · exact KI.thr h (w_clear_x0 hS (by omega) a1) (by decide) (by omega) (fun n' hn' => s_X12_clear hS (by omega) a2) (fun _ _ _ _ _ _ _ q => q) (px_t_in M _) ⟨_, rfl, rfl⟩ (px_t_kp M _)
theorem k_open (h : IA c sh M L R n cu su) (p1 : Int32) : KI X yL_open cL_open 4 [(0, 9, 12, 19), (0, 9, 15, 24)] yX12_open cX12_open 2 (some .int) [.ref 0, .int p1, .ref 219] [.ref 73, .int p1] bvI c sh M L R n cu su := by
  have hS := h.1.1
  obtain ⟨fn, fu, fo, frow, hF⟩ := h.2.1
  rcases p_open (sh := sh) hF p1 with ⟨r, M1, M2, a1, a2, a3, a4, a5⟩ | ⟨a1, a2⟩ | ⟨a1, a2⟩
  · exact KI.ret (w_open hS (by omega) a1) (fun _ _ _ _ _ _ q => q) (fun _ _ _ _ _ _ _ => hS) (fun hS => s_X12_open hS (by omega) a2) (fun _ _ _ _ _ _ q => q) (by omega) a3 ⟨_, rfl, rfl⟩ (px_u_in _ _ _ _) (fun hS => h.go (ks := [1]) a4 (kp.rf.o _) kp.rf (fun _ _ q => q) h.1 (by omega) (Or.inl (by omega)) (fun _ => a5) (fun q => absurd q (by decide)) (fun q => absurd q (by decide)) (fun q => absurd q (by decide)) (fun q => absurd q (by decide)) (fun q => absurd q (by decide)))
  · exact KI.thr h (w_open_x1 hS (by omega) a1) (by decide) (by omega) (fun n' hn' => s_X12_open hS (by omega) a2) (fun _ _ _ _ _ _ _ q => q) (px_t_in M _) ⟨_, rfl, rfl⟩ (px_t_kp M _)
  · exact KI.thr h (w_open_x2 hS (by omega) a1) (by decide) (by omega) (fun n' hn' => s_X12_open hS (by omega) a2) (fun _ _ _ _ _ _ _ q => q) (px_t_in M _) ⟨_, rfl, rfl⟩ (px_t_kp M _)
theorem k_orders (h : IA c sh M L R n cu su) : KI X yL_orders cL_orders 3 [(0, 8, 11, 19)] yX12_orders cX12_orders 1 (some .int) [.ref 0, .ref 219] [.ref 73] bvI c sh M L R n cu su := by
  have hS := h.1.1
  obtain ⟨fn, fu, fo, frow, hF⟩ := h.2.1
  rcases p_orders (sh := sh) hF with ⟨r, M1, M2, a1, a2, a3, a4⟩ | ⟨a1, a2⟩
  · exact KI.ret (w_orders hS (by omega) a1) (fun _ _ _ _ _ _ q => q) (fun _ _ _ _ _ _ _ => hS) (fun hS => s_X12_orders hS (by omega) a2) (fun _ _ _ _ _ _ q => q) (by omega) a3 ⟨_, rfl, rfl⟩ (px_u_in _ _ _ _) (fun hS => h.go (ks := []) a4 (kp.rf.o _) kp.rf (fun _ _ q => q) h.1 (by omega) (Or.inl (by omega)) (fun q => absurd q (by decide)) (fun q => absurd q (by decide)) (fun q => absurd q (by decide)) (fun q => absurd q (by decide)) (fun q => absurd q (by decide)) (fun q => absurd q (by decide)))
  · exact KI.thr h (w_orders_x1 hS (by omega) a1) (by decide) (by omega) (fun n' hn' => s_X12_orders hS (by omega) a2) (fun _ _ _ _ _ _ _ q => q) (px_t_in M _) ⟨_, rfl, rfl⟩ (px_t_kp M _)
theorem k_safe (h : IA c sh M L R n cu su) (p1 : Int32) : KI X yL_safe cL_safe 4 [(0, 9, 12, 19)] yX12_safe cX12_safe 7 (some .int) [.ref 0, .int p1, .ref 219] [.ref 73, .int p1] bvI c sh M L R n cu su := by
  have hS := h.1.1
  obtain ⟨fn, fu, fo, frow, hF⟩ := h.2.1
  have hsn := h.1.2.2 n (Nat.le_refl _)
  have hm0 := fun j => md_n h.1.2.1 hsn j
  rcases p_safe (sh := sh) (L := L) (R := R) hF h.1.2.1 hsn p1 with ⟨r, M1, M2, a1, -⟩ | ⟨a1, a2⟩
  · rcases p_safe (sh := sh) (L := px_u L 219 0 r.toInt64) (R := R) hF h.1.2.1 hsn p1 with ⟨r2, M12, M22, b1, a2, a3, a4⟩ | ⟨b1, -⟩
    · obtain ⟨rfl, rfl⟩ : r = r2 ∧ M1 = M12 := by rw [a1] at b1; cases b1; exact ⟨rfl, rfl⟩
      exact KI.ret (w_safe hS (by omega) a1) (fun _ _ _ _ _ _ q => q) (fun _ _ _ _ _ _ _ => hS) (fun hS => s_X12_safe hS (by omega) h.1.2.1 a2) (fun _ _ _ _ _ _ q => q.1) (by omega) a3 ⟨_, rfl, rfl⟩ (by dsimp only; rw [px_c_ne _ _ (by have := h.1.2.1; omega)]; exact px_u_in _ _ _ _) (fun hS => h.no a4 ((kp.rf.o _).c hm0) (kp.rf.c hm0) (c_ext hsn _) (h.1.cc _ _) (by omega) (by omega))
    · rw [a1] at b1; cases b1
  · exact KI.thr h (w_safe_x1 hS (by omega) a1) (by decide) (by omega) (fun n' hn' => s_X12_safe (e := (0, sh, px_t M 1, L, R, n')) hS (by omega) (Nat.le_trans h.1.2.1 hn') (safe_thr hF h a1 hn')) (fun _ _ _ _ _ _ _ q => q.1) (px_t_in M _) ⟨_, rfl, rfl⟩ (px_t_kp M _)
theorem k_panel (h : IA c sh M L R n cu su) (p1 p2 p3 p4 p5 : Int32) : KI X yL_panel cL_panel 8 [(0, 16, 19, 13)] yX12_panel cX12_panel 6 (some .int) [.ref 0, .int p1, .int p2, .int p3, .int p4, .int p5, .ref 219] [.ref 73, .int p1, .int p2, .int p3, .int p4, .int p5] bvI c sh M L R n cu su := by
  have hS := h.1.1
  obtain ⟨np, ⟨nf, pa, fp, hA, hcu⟩, b, hIV, hsu⟩ := h.2.2.1
  have hsn := h.1.2.2 n (Nat.le_refl _)
  rcases p_panel (L := L) ⟨np, nf, pa, fp, hA⟩ h.1.2.1 hsn p1 p2 p3 p4 p5 with ⟨r, sh1, M1, L1, R1, n1, M2, a1, a2, a3, ⟨a4, a5, a6⟩, a7, ⟨np2, nf2, pa2, fp2, h3⟩, a9⟩ | ⟨a1, a2⟩
  · obtain ⟨hle, h84⟩ := a9 np np2 hA.2.1.1 hA.1.1 h3.2.1.1 h3.1.1
    have hext : (∀ a q, sh a = some q → sh1 a = some q) ∧ (220 ≤ n1 ∧ ∀ k, n1 ≤ k → sh1 k = none) := by
      rcases a7 with ⟨rfl, rfl⟩ | ⟨rfl, rfl⟩
      · exact ⟨fun _ _ q => q, h.1.2⟩
      · exact ⟨c_ext hsn _, (h.1.cc (5, 0) (fun _ => none)).2⟩
    have hIS : IS sh1 M2 R1 np2 := ⟨nf2, pa2, fp2, h3, fun i hi => by
      rw [h84 i]
      by_cases e : i < np
      · exact hcu i e
      · rw [(hA.2.2.2.2.2.2.2.1 i (by omega)).1]; decide⟩
    have hL5 : kp sh [2] L (px_u L1 219 0 r.toInt64) := (a5.mono (by decide)).o _
    exact KI.ret (w_panel hS (by omega) h.1.2.1 a1) (fun _ _ _ _ _ _ q => q.1) (fun _ _ _ _ _ _ q => q.2.1) (fun hS => s_X12_panel hS (by omega) a2) (fun _ _ _ _ _ _ q => q) (by omega) a3 ⟨_, rfl, rfl⟩ (px_u_in _ _ _ _) (fun hS => h.go (ks := [2]) a4 hL5 a6 hext.1 ⟨hS, hext.2⟩ (by omega) (Or.inl (by omega)) (fun q => absurd q (by decide)) (fun _ => I23.s ⟨b, hIV, hsu⟩ a4 hL5 a6 hext.1 hle (by omega) hIS) (fun q => absurd q (by decide)) (fun q => absurd q (by decide)) (fun q => absurd q (by decide)) (fun q => absurd q (by decide)))
  · exact KI.thr h (w_panel_x0 hS (by omega) h.1.2.1 a1) (by decide) (by omega) (fun n' hn' => s_X12_panel hS (by omega) a2) (fun _ _ _ _ _ _ _ q => q) (px_t_in M _) ⟨_, rfl, rfl⟩ (px_t_kp M _)
theorem k_of (h : IA c sh M L R n cu su) (p1 p2 : Int32) : KI X yL_of cL_of 5 [(0, 10, 13, 44), (0, 10, 17, 13)] yX12_of cX12_of 3 (some .int) [.ref 0, .int p1, .int p2, .ref 219] [.ref 73, .int p1, .int p2] bvI c sh M L R n cu su := by
  have hS := h.1.1
  obtain ⟨np, ⟨nf, pa, fp, hA, hcu⟩, b, hIV, hsu⟩ := h.2.2.1
  rcases p_of ⟨np, nf, pa, fp, hA⟩ p1 p2 with ⟨r, a1, a2⟩ | ⟨a1, a2⟩ | ⟨a1, a2⟩
  · exact KI.ret (w_of hS (by omega) a1) (fun _ _ _ _ _ _ q => q) (fun _ _ _ _ _ _ _ => hS) (fun hS => s_X12_of hS (by omega) a2) (fun _ _ _ _ _ _ q => q) (by omega) (px_u_in M 73 0 0) ⟨_, rfl, rfl⟩ (px_u_in _ _ _ _) (fun hS => h.go (ks := []) (px_0_kp _ _) (kp.rf.o _) kp.rf (fun _ _ q => q) h.1 (by omega) (Or.inl (by omega)) (fun q => absurd q (by decide)) (fun q => absurd q (by decide)) (fun q => absurd q (by decide)) (fun q => absurd q (by decide)) (fun q => absurd q (by decide)) (fun q => absurd q (by decide)))
  · exact KI.thr h (w_of_x3 hS (by omega) a1) (by decide) (by omega) (fun n' hn' => s_X12_of hS (by omega) a2) (fun _ _ _ _ _ _ _ q => q) (px_t_in M _) ⟨_, rfl, rfl⟩ (px_t_kp M _)
  · exact KI.thr h (w_of_x0 hS (by omega) a1) (by decide) (by omega) (fun n' hn' => s_X12_of hS (by omega) a2) (fun _ _ _ _ _ _ _ q => q) (px_t_in M _) ⟨_, rfl, rfl⟩ (px_t_kp M _)
theorem k_push (h : IA c sh M L R n cu su) (p1 p2 : Int32) : KI X yL_push cL_push 5 [(0, 10, 13, 13)] yX12_push cX12_push 5 (some .int) [.ref 0, .int p1, .int p2, .ref 219] [.ref 73, .int p1, .int p2] bvI c sh M L R n cu su := by
  have hS := h.1.1
  obtain ⟨np, ⟨nf, pa, fp, hA, hcu⟩, b, hIV, hsu⟩ := h.2.2.1
  rcases p_push ⟨np, nf, pa, fp, hA⟩ p1 p2 with ⟨r, a1, a2⟩ | ⟨a1, a2⟩
  · exact KI.ret (w_push hS (by omega) a1) (fun _ _ _ _ _ _ q => q) (fun _ _ _ _ _ _ _ => hS) (fun hS => s_X12_push hS (by omega) a2) (fun _ _ _ _ _ _ q => q) (by omega) (px_u_in M 73 0 0) ⟨_, rfl, rfl⟩ (px_u_in _ _ _ _) (fun hS => h.go (ks := []) (px_0_kp _ _) (kp.rf.o _) kp.rf (fun _ _ q => q) h.1 (by omega) (Or.inl (by omega)) (fun q => absurd q (by decide)) (fun q => absurd q (by decide)) (fun q => absurd q (by decide)) (fun q => absurd q (by decide)) (fun q => absurd q (by decide)) (fun q => absurd q (by decide)))
  · exact KI.thr h (w_push_x0 hS (by omega) a1) (by decide) (by omega) (fun n' hn' => s_X12_push hS (by omega) a2) (fun _ _ _ _ _ _ _ q => q) (px_t_in M _) ⟨_, rfl, rfl⟩ (px_t_kp M _)
theorem k_turn (h : IA c sh M L R n cu su) (p1 p2 : Int32) : KI X yL_turn cL_turn 5 [(0, 10, 13, 13)] yX12_turn cX12_turn 3 (some .int) [.ref 0, .int p1, .int p2, .ref 219] [.ref 73, .int p1, .int p2] bvI c sh M L R n cu su := by
  have hS := h.1.1
  obtain ⟨np, ⟨nf, pa, fp, hA, hcu⟩, b, hIV, hsu⟩ := h.2.2.1
  rcases p_turn ⟨np, nf, pa, fp, hA⟩ p1 p2 with ⟨r, a1, a2⟩ | ⟨a1, a2⟩
  · exact KI.ret (w_turn hS (by omega) a1) (fun _ _ _ _ _ _ q => q) (fun _ _ _ _ _ _ _ => hS) (fun hS => s_X12_turn hS (by omega) a2) (fun _ _ _ _ _ _ q => q) (by omega) (px_u_in M 73 0 0) ⟨_, rfl, rfl⟩ (px_u_in _ _ _ _) (fun hS => h.go (ks := []) (px_0_kp _ _) (kp.rf.o _) kp.rf (fun _ _ q => q) h.1 (by omega) (Or.inl (by omega)) (fun q => absurd q (by decide)) (fun q => absurd q (by decide)) (fun q => absurd q (by decide)) (fun q => absurd q (by decide)) (fun q => absurd q (by decide)) (fun q => absurd q (by decide)))
  · exact KI.thr h (w_turn_x0 hS (by omega) a1) (by decide) (by omega) (fun n' hn' => s_X12_turn hS (by omega) a2) (fun _ _ _ _ _ _ _ q => q) (px_t_in M _) ⟨_, rfl, rfl⟩ (px_t_kp M _)
theorem k_tear (h : IA c sh M L R n cu su) (p1 : Int32) : KI X yL_tear cL_tear 4 [(0, 16, 19, 44)] yX12_tear cX12_tear 3 (some .boolean) [.ref 0, .int p1, .ref 219] [.ref 73, .int p1] bvZ c sh M L R n cu su := by
  have hS := h.1.1
  obtain ⟨np, ⟨nf, pa, fp, hA, hcu⟩, b, hIV, hsu⟩ := h.2.2.1
  rcases p_tear ⟨np, nf, pa, fp, hA⟩ p1 with ⟨r, M1, M2, a1, a2, a3, ⟨a4, a84⟩, a5, a6⟩ | ⟨a1, a2⟩
  · exact KI.ret (w_tear hS (by omega) a1) (fun _ _ _ _ _ _ q => q) (fun _ _ _ _ _ _ _ => hS) (fun hS => s_X12_tear hS (by omega) a2) (fun _ _ _ _ _ _ q => q) (by omega) a3 ⟨_, rfl, rfl⟩ (px_u_in _ _ _ _) (fun hS => h.go (ks := [2]) a5 (kp.rf.o _) kp.rf (fun _ _ q => q) h.1 (by omega) (Or.inl (by omega)) (fun q => absurd q (by decide)) (fun _ => I23.s ⟨b, hIV, hsu⟩ a5 (kp.rf.o _) kp.rf (fun _ _ q => q) (Nat.le_refl _) (by omega) (IS.of hA hcu a6 a4 a84)) (fun q => absurd q (by decide)) (fun q => absurd q (by decide)) (fun q => absurd q (by decide)) (fun q => absurd q (by decide)))
  · exact KI.thr h (w_tear_x3 hS (by omega) a1) (by decide) (by omega) (fun n' hn' => s_X12_tear hS (by omega) a2) (fun _ _ _ _ _ _ _ q => q) (px_t_in M _) ⟨_, rfl, rfl⟩ (px_t_kp M _)
theorem k_bend (h : IA c sh M L R n cu su) (p1 p2 : Int32) : KI X yL_bend cL_bend 5 [(0, 10, 13, 24), (0, 10, 17, 13)] yX12_bend cX12_bend 4 (some .int) [.ref 0, .int p1, .int p2, .ref 219] [.ref 73, .int p1, .int p2] bvI c sh M L R n cu su := by
  have hS := h.1.1
  obtain ⟨np, ⟨nf, pa, fp, hA, hcu⟩, b, hIV, hsu⟩ := h.2.2.1
  rcases p_bend ⟨np, nf, pa, fp, hA⟩ p1 p2 with ⟨r, M1, M2, a1, a2, a3, ⟨a4, a84⟩, a5, a6⟩ | ⟨a1, a2⟩ | ⟨a1, a2⟩
  · exact KI.ret (w_bend hS (by omega) a1) (fun _ _ _ _ _ _ q => q) (fun _ _ _ _ _ _ _ => hS) (fun hS => s_X12_bend hS (by omega) a2) (fun _ _ _ _ _ _ q => q) (by omega) a3 ⟨_, rfl, rfl⟩ (px_u_in _ _ _ _) (fun hS => h.go (ks := [2]) a5 (kp.rf.o _) kp.rf (fun _ _ q => q) h.1 (by omega) (Or.inl (by omega)) (fun q => absurd q (by decide)) (fun _ => I23.s ⟨b, hIV, hsu⟩ a5 (kp.rf.o _) kp.rf (fun _ _ q => q) (Nat.le_refl _) (by omega) (IS.of hA hcu a6 a4 a84)) (fun q => absurd q (by decide)) (fun q => absurd q (by decide)) (fun q => absurd q (by decide)) (fun q => absurd q (by decide)))
  · exact KI.thr h (w_bend_x2 hS (by omega) a1) (by decide) (by omega) (fun n' hn' => s_X12_bend hS (by omega) a2) (fun _ _ _ _ _ _ _ q => q) (px_t_in M _) ⟨_, rfl, rfl⟩ (px_t_kp M _)
  · exact KI.thr h (w_bend_x0 hS (by omega) a1) (by decide) (by omega) (fun n' hn' => s_X12_bend hS (by omega) a2) (fun _ _ _ _ _ _ _ q => q) (px_t_in M _) ⟨_, rfl, rfl⟩ (px_t_kp M _)
theorem k_stuck (h : IA c sh M L R n cu su) (p1 p2 : Int32) (hz : zb p2 = true) : KI X yL_stuck cL_stuck 5 [(0, 17, 20, 24)] yX12_stuck cX12_stuck 4 (some .boolean) [.ref 0, .int p1, .int p2, .ref 219] [.ref 73, .int p1, .int p2] bvZ c sh M L R n cu su := by
  have hS := h.1.1
  obtain ⟨np, ⟨nf, pa, fp, hA, hcu⟩, b, hIV, hsu⟩ := h.2.2.1
  rcases p_stuck ⟨np, nf, pa, fp, hA⟩ p1 hz with ⟨r, M1, M2, a1, a2, a3, ⟨a4, a84⟩, a5, a6⟩ | ⟨a1, a2⟩
  · exact KI.ret (w_stuck hS (by omega) a1) (fun _ _ _ _ _ _ q => q) (fun _ _ _ _ _ _ _ => hS) (fun hS => s_X12_stuck hS (by omega) a2) (fun _ _ _ _ _ _ q => q) (by omega) a3 ⟨_, rfl, rfl⟩ (px_u_in _ _ _ _) (fun hS => h.go (ks := [2]) a5 (kp.rf.o _) kp.rf (fun _ _ q => q) h.1 (by omega) (Or.inl (by omega)) (fun q => absurd q (by decide)) (fun _ => I23.s ⟨b, hIV, hsu⟩ a5 (kp.rf.o _) kp.rf (fun _ _ q => q) (Nat.le_refl _) (by omega) (IS.of hA hcu a6 a4 a84)) (fun q => absurd q (by decide)) (fun q => absurd q (by decide)) (fun q => absurd q (by decide)) (fun q => absurd q (by decide)))
  · exact KI.thr h (w_stuck_x2 hS (by omega) a1) (by decide) (by omega) (fun n' hn' => s_X12_stuck hS (by omega) a2) (fun _ _ _ _ _ _ _ q => q) (px_t_in M _) ⟨_, rfl, rfl⟩ (px_t_kp M _)
theorem k_weights (h : IA c sh M L R n cu su) (p1 p2 : Int32) : KI X yL_weights cL_weights 4 [(0, 6, 9, 13)] yX12_weights cX12_weights 3 none [.ref 0, .int p1, .int p2] [.ref 73, .int p1, .int p2] bvV c sh M L R n cu su := by
  have hS := h.1.1
  obtain ⟨np, ⟨nf, pa, fp, hA, hcu⟩, b, hIV, hsu⟩ := h.2.2.1
  rcases p_weights ⟨np, nf, pa, fp, hA⟩ p1 p2 with ⟨M1, M2, a1, a2, a3, ⟨a4, a84⟩, a5, a6⟩ | ⟨a1, a2⟩
  · exact KI.ret (w_weights hS (by omega) a1) (fun _ _ _ _ _ _ q => q) (fun _ _ _ _ _ _ _ => hS) (fun hS => s_X12_weights hS (by omega) a2) (fun _ _ _ _ _ _ q => q) (by omega) a3 rfl rfl (fun hS => h.go (ks := [2]) a5 kp.rf kp.rf (fun _ _ q => q) h.1 (by omega) (Or.inl (by omega)) (fun q => absurd q (by decide)) (fun _ => I23.s ⟨b, hIV, hsu⟩ a5 kp.rf kp.rf (fun _ _ q => q) (Nat.le_refl _) (by omega) (IS.of hA hcu a6 a4 a84)) (fun q => absurd q (by decide)) (fun q => absurd q (by decide)) (fun q => absurd q (by decide)) (fun q => absurd q (by decide)))
  · exact KI.thr (w := 0) h (w_weights_x0 hS (by omega) a1) (by decide) (by omega) (fun n' hn' => s_X12_weights hS (by omega) a2) (fun _ _ _ _ _ _ _ q => q) (px_t_in M _) rfl (px_t_kp M _)
theorem k_flap (h : IA c sh M L R n cu su) (p1 : Int32) : KI X yL_flap cL_flap 4 [(0, 9, 12, 44)] yX12_flap cX12_flap 2 (some .int) [.ref 0, .int p1, .ref 219] [.ref 73, .int p1] bvI c sh M L R n cu su := by
  have hS := h.1.1
  obtain ⟨np, ⟨nf, pa, fp, hA, hcu⟩, b, hIV, hsu⟩ := h.2.2.1
  rcases p_flap ⟨np, nf, pa, fp, hA⟩ p1 with ⟨r, M1, R1, M2, a1, a2, a3, a5, a7, a6, ⟨a4, a84⟩⟩ | ⟨a1, a2⟩
  · exact KI.ret (w_flap hS (by omega) a1) (fun _ _ _ _ _ _ q => q.1) (fun _ _ _ _ _ _ q => q.2) (fun hS => s_X12_flap hS (by omega) a2) (fun _ _ _ _ _ _ q => q) (by omega) a3 ⟨_, rfl, rfl⟩ (px_u_in _ _ _ _) (fun hS => h.go (ks := [2]) a5 (kp.rf.o _) a7 (fun _ _ q => q) ⟨hS, h.1.2⟩ (by omega) (Or.inl (by omega)) (fun q => absurd q (by decide)) (fun _ => I23.s ⟨b, hIV, hsu⟩ a5 (kp.rf.o _) a7 (fun _ _ q => q) (Nat.le_refl _) (by omega) (IS.of hA hcu a6 a4 a84)) (fun q => absurd q (by decide)) (fun q => absurd q (by decide)) (fun q => absurd q (by decide)) (fun q => absurd q (by decide)))
  · exact KI.thr h (w_flap_x3 hS (by omega) a1) (by decide) (by omega) (fun n' hn' => s_X12_flap hS (by omega) a2) (fun _ _ _ _ _ _ _ q => q) (px_t_in M _) ⟨_, rfl, rfl⟩ (px_t_kp M _)
theorem k_trim (h : IA c sh M L R n cu su) (p1 p2 : Int32) : KI X yL_trim cL_trim 5 [(0, 10, 13, 13)] yX12_trim cX12_trim 12 (some .int) [.ref 0, .int p1, .int p2, .ref 219] [.ref 73, .int p1, .int p2] bvI c sh M L R n cu su := by
  have hS := h.1.1
  obtain ⟨np, ⟨nf, pa, fp, hA, hcu⟩, b, hIV, hsu⟩ := h.2.2.1
  have hsn := h.1.2.2 n (Nat.le_refl _)
  have hsn1 := h.1.2.2 (n + 1) (by omega)
  have hm0 := fun j => md_n h.1.2.1 hsn j
  have hm1 := fun j => md_n (show 220 ≤ n + 1 by have := h.1.2.1; omega) hsn1 j
  rcases p_trim (L := L) ⟨np, nf, pa, fp, hA⟩ hS h.1.2.1 hsn hsn1 p1 p2 with ⟨r, M1, M2, a1, -⟩ | ⟨a1, a2⟩
  · rcases p_trim (L := px_u L 219 0 r.toInt64) ⟨np, nf, pa, fp, hA⟩ hS h.1.2.1 hsn hsn1 p1 p2 with ⟨r2, M12, M22, b1, a2, a3, ⟨a4, a84⟩, a5, a6⟩ | ⟨b1, -⟩
    · obtain ⟨rfl, rfl⟩ : r = r2 ∧ M1 = M12 := by rw [a1] at b1; cases b1; exact ⟨rfl, rfl⟩
      have hLk : kp sh [2] L (px_c (px_c (px_u L 219 0 r.toInt64) n (fun _ => 0)) (n + 1) (fun _ => 0)) := ((kp.rf.o _).c hm0).c hm1
      have hRk : kp sh [2] R (px_c (px_c R n (fun _ => none)) (n + 1) (fun _ => none)) := (kp.rf.c hm0).c hm1
      have hx : ∀ a q, sh a = some q → px_c (px_c sh n (some (13, 4))) (n + 1) (some (13, 4)) a = some q := fun a q e => c_ext (by rw [px_c_ne _ _ (by omega)]; exact hsn1) _ a q (c_ext hsn _ a q e)
      have hRk0 : kp sh [] R (px_c (px_c R n (fun _ => none)) (n + 1) (fun _ => none)) := (kp.rf.c hm0).c hm1
      have hIS := (IS.of hA hcu a6 a4 a84).fr (sh' := px_c (px_c sh n (some (13, 4))) (n + 1) (some (13, 4))) (fun _ _ _ => rfl) (hRk0.sm (by decide)) hx
      exact KI.ret (w_trim hS (by omega) a1) (fun _ _ _ _ _ _ q => q) (fun _ _ _ _ _ _ _ => hS) (fun hS => s_X12_trim hS (by omega) h.1.2.1 a2) (fun _ _ _ _ _ _ q => q.1) (by omega) a3 ⟨_, rfl, rfl⟩ (by dsimp only; rw [px_c_ne _ _ (by have := h.1.2.1; omega), px_c_ne _ _ (by have := h.1.2.1; omega)]; exact px_u_in _ _ _ _) (fun hS => h.go (ks := [2]) a5 hLk hRk hx ((h.1.cc _ _).cc _ _) (by omega) (Or.inl (by omega)) (fun q => absurd q (by decide)) (fun _ => I23.s ⟨b, hIV, hsu⟩ a5 hLk hRk hx (Nat.le_refl _) (by omega) hIS) (fun q => absurd q (by decide)) (fun q => absurd q (by decide)) (fun q => absurd q (by decide)) (fun q => absurd q (by decide)))
    · rw [a1] at b1; cases b1
  · exact KI.thr h (w_trim_x0 hS (by omega) a1) (by decide) (by omega) (fun n' hn' => s_X12_trim (e := (0, sh, px_t M 1, L, R, n')) hS (by omega) (Nat.le_trans h.1.2.1 hn') (trim_thr hA h a1 hn')) (fun _ _ _ _ _ _ _ q => q.1) (px_t_in M _) ⟨_, rfl, rfl⟩ (px_t_kp M _)
theorem k_world (h : IA c sh M L R n cu su) (p1 p2 p3 : Int32) : KI X yL_world cL_world 6 [(0, 12, 15, 13)] yX12_world cX12_world 4 (some .int) [.ref 0, .int p1, .int p2, .int p3, .ref 219] [.ref 73, .int p1, .int p2, .int p3] bvI c sh M L R n cu su := by
  have hS := h.1.1
  obtain ⟨np, ⟨nf, pa, fp, hA, hcu⟩, b, hIV, hsu⟩ := h.2.2.1
  obtain ⟨nw, nd, wa, ch, ly, d, r, a, ⟨hW, hV⟩, hdu, hch⟩ := id hIV
  have hsn := h.1.2.2 n (Nat.le_refl _)
  rcases p_world hW hV h.1.2.1 h.1.2.2 p1 p2 p3 with ⟨q, sh1, M1, L1, R1, n1, M2, a1, a2, a3, ⟨a4, a5, a6⟩, a7, ⟨nw2, wa2, ch2, ly2, x1, x2, x3⟩, ⟨nw3, x4⟩, x5, -⟩ | ⟨a1, a2⟩
  · obtain rfl : nw3 = nw2 := by
      have e := x1.2.1.1
      rw [x4.2.1.1] at e
      exact (nI_eq (by have := x4.1.1; omega) (by have := x1.1; omega)).mp e
    have hext : (∀ a q, sh a = some q → sh1 a = some q) ∧ (220 ≤ n1 ∧ ∀ k, n1 ≤ k → sh1 k = none) := by
      rcases a7 with ⟨rfl, rfl⟩ | ⟨rfl, rfl⟩
      · exact ⟨fun _ _ q => q, h.1.2⟩
      · exact ⟨c_ext hsn _, (h.1.cc (10, 0) (fun _ => none)).2⟩
    have hL5 : kp sh [3] L (px_u L1 219 0 q.toInt64) := (a5.mono (by decide)).o _
    have hIV2 : IV sh1 M2 (px_u L1 219 0 q.toInt64) R1 np b := ⟨nw3, nd, wa2, ch2, ly2, d, r, a, ⟨x1.fr (fun _ _ _ => rfl) ((kp.rf.o (ks := []) _).sm (by decide)) (fun _ _ _ => rfl) (fun _ _ q => q), x4⟩, fun k hk => by rw [x5 k]; exact hdu k hk, by
      rw [← chn_eq (R' := R1) (wa' := wa2) nw x3] at hch
      exact Nat.le_trans hch (chn_mono _ _ nw3 x2)⟩
    exact KI.ret (w_world hS (by omega) h.1.2.1 a1) (fun _ _ _ _ _ _ q => q.1) (fun _ _ _ _ _ _ q => q.2.1) (fun hS => s_X12_world hS (by omega) a2) (fun _ _ _ _ _ _ q => q) (by omega) a3 ⟨_, rfl, rfl⟩ (px_u_in _ _ _ _) (fun hS => h.go (ks := [3]) a4 hL5 a6 hext.1 ⟨hS, hext.2⟩ (by omega) (Or.inl (by omega)) (fun q => absurd q (by decide)) (fun _ => I23.v ⟨nf, pa, fp, hA, hcu⟩ a4 a6 hext.1 (by omega) hIV2) (fun q => absurd q (by decide)) (fun q => absurd q (by decide)) (fun q => absurd q (by decide)) (fun q => absurd q (by decide)))
  · exact KI.thr h (w_world_x0 hS (by omega) h.1.2.1 a1) (by decide) (by omega) (fun n' hn' => s_X12_world hS (by omega) a2) (fun _ _ _ _ _ _ _ q => q) (px_t_in M _) ⟨_, rfl, rfl⟩ (px_t_kp M _)
theorem k_angle (h : IA c sh M L R n cu su) (p1 p2 : Int32) : KI X yL_angle cL_angle 5 [(0, 10, 13, 24), (0, 10, 17, 13)] yX12_angle cX12_angle 3 (some .int) [.ref 0, .int p1, .int p2, .ref 219] [.ref 73, .int p1, .int p2] bvI c sh M L R n cu su := by
  have hS := h.1.1
  obtain ⟨np, ⟨nf, pa, fp, hA, hcu⟩, b, hIV, hsu⟩ := h.2.2.1
  obtain ⟨nw, nd, wa, ch, ly, d, r, a, ⟨hW, hV⟩, hdu, hch⟩ := id hIV
  rcases p_angle hW p1 p2 with ⟨q, a1, a2⟩ | ⟨a1, a2⟩ | ⟨a1, a2⟩
  · exact KI.ret (w_angle hS (by omega) a1) (fun _ _ _ _ _ _ q => q) (fun _ _ _ _ _ _ _ => hS) (fun hS => s_X12_angle hS (by omega) a2) (fun _ _ _ _ _ _ q => q) (by omega) (px_u_in M 73 0 0) ⟨_, rfl, rfl⟩ (px_u_in _ _ _ _) (fun hS => h.go (ks := []) (px_0_kp _ _) (kp.rf.o _) kp.rf (fun _ _ q => q) h.1 (by omega) (Or.inl (by omega)) (fun q => absurd q (by decide)) (fun q => absurd q (by decide)) (fun q => absurd q (by decide)) (fun q => absurd q (by decide)) (fun q => absurd q (by decide)) (fun q => absurd q (by decide)))
  · exact KI.thr h (w_angle_x2 hS (by omega) a1) (by decide) (by omega) (fun n' hn' => s_X12_angle hS (by omega) a2) (fun _ _ _ _ _ _ _ q => q) (px_t_in M _) ⟨_, rfl, rfl⟩ (px_t_kp M _)
  · exact KI.thr h (w_angle_x0 hS (by omega) a1) (by decide) (by omega) (fun n' hn' => s_X12_angle hS (by omega) a2) (fun _ _ _ _ _ _ _ q => q) (px_t_in M _) ⟨_, rfl, rfl⟩ (px_t_kp M _)
theorem k_note (h : IA c sh M L R n cu su) (p1 p2 : Int32) : KI X yL_note cL_note 5 [(0, 10, 13, 13)] yX12_note cX12_note 3 (some .int) [.ref 0, .int p1, .int p2, .ref 219] [.ref 73, .int p1, .int p2] bvI c sh M L R n cu su := by
  have hS := h.1.1
  obtain ⟨np, ⟨nf, pa, fp, hA, hcu⟩, b, hIV, hsu⟩ := h.2.2.1
  obtain ⟨nw, nd, wa, ch, ly, d, r, a, ⟨hW, hV⟩, hdu, hch⟩ := id hIV
  rcases p_note hV p1 p2 with ⟨q, a1, a2⟩ | ⟨a1, a2⟩
  · exact KI.ret (w_note hS (by omega) a1) (fun _ _ _ _ _ _ q => q) (fun _ _ _ _ _ _ _ => hS) (fun hS => s_X12_note hS (by omega) a2) (fun _ _ _ _ _ _ q => q) (by omega) (px_u_in M 73 0 0) ⟨_, rfl, rfl⟩ (px_u_in _ _ _ _) (fun hS => h.go (ks := []) (px_0_kp _ _) (kp.rf.o _) kp.rf (fun _ _ q => q) h.1 (by omega) (Or.inl (by omega)) (fun q => absurd q (by decide)) (fun q => absurd q (by decide)) (fun q => absurd q (by decide)) (fun q => absurd q (by decide)) (fun q => absurd q (by decide)) (fun q => absurd q (by decide)))
  · exact KI.thr h (w_note_x0 hS (by omega) a1) (by decide) (by omega) (fun n' hn' => s_X12_note hS (by omega) a2) (fun _ _ _ _ _ _ _ q => q) (px_t_in M _) ⟨_, rfl, rfl⟩ (px_t_kp M _)
theorem k_goal (h : IA c sh M L R n cu su) (p1 : Int32) : KI X yL_goal cL_goal 4 [(0, 9, 12, 24)] yX12_goal cX12_goal 3 (some .int) [.ref 0, .int p1, .ref 219] [.ref 73, .int p1] bvI c sh M L R n cu su := by
  have hS := h.1.1
  obtain ⟨np, ⟨nf, pa, fp, hA, hcu⟩, b, hIV, hsu⟩ := h.2.2.1
  obtain ⟨nw, nd, wa, ch, ly, d, r, a, ⟨hW, hV⟩, hdu, hch⟩ := id hIV
  rcases p_goal (sh := sh) hV p1 with ⟨q, M1, M2, a1, a2, a3, a4, a5, a6⟩ | ⟨a1, a2⟩
  · have hIV2 : IV sh M2 (px_u L 219 0 q.toInt64) R np b := ⟨nw, nd, wa, ch, ly, d, r, a, ⟨(hW.fr2 fun c j q => a6 c j (by omega) (by omega)).fr (fun _ _ _ => rfl) ((kp.rf.o (ks := []) _).sm (by decide)) (fun _ _ _ => rfl) (fun _ _ q => q), a5⟩, fun k hk => by rw [a6 16 k (by omega) (by omega)]; exact hdu k hk, hch⟩
    exact KI.ret (w_goal hS (by omega) a1) (fun _ _ _ _ _ _ q => q) (fun _ _ _ _ _ _ _ => hS) (fun hS => s_X12_goal hS (by omega) a2) (fun _ _ _ _ _ _ q => q) (by omega) a3 ⟨_, rfl, rfl⟩ (px_u_in _ _ _ _) (fun hS => h.go (ks := [3]) a4 (kp.rf.o _) kp.rf (fun _ _ q => q) h.1 (by omega) (Or.inl (by omega)) (fun q => absurd q (by decide)) (fun _ => I23.v ⟨nf, pa, fp, hA, hcu⟩ a4 kp.rf (fun _ _ q => q) (by omega) hIV2) (fun q => absurd q (by decide)) (fun q => absurd q (by decide)) (fun q => absurd q (by decide)) (fun q => absurd q (by decide)))
  · exact KI.thr h (w_goal_x2 hS (by omega) a1) (by decide) (by omega) (fun n' hn' => s_X12_goal hS (by omega) a2) (fun _ _ _ _ _ _ _ q => q) (px_t_in M _) ⟨_, rfl, rfl⟩ (px_t_kp M _)
theorem k_dust (h : IA c sh M L R n cu su) (p1 p2 : Int32) : KI X yL_dust cL_dust 5 [(0, 10, 13, 44), (0, 10, 17, 13)] yX12_dust cX12_dust 3 (some .int) [.ref 0, .int p1, .int p2, .ref 219] [.ref 73, .int p1, .int p2] bvI c sh M L R n cu su := by
  have hS := h.1.1
  obtain ⟨np, ⟨nf, pa, fp, hA, hcu⟩, b, hIV, hsu⟩ := h.2.2.1
  obtain ⟨nw, nd, wa, ch, ly, d, r, a, ⟨hW, hV⟩, hdu, hch⟩ := id hIV
  rcases p_dust (sh := sh) hV ⟨np, nd, hA.1.1, hV.1.2.2.2.2, hA.2.1.1, hV.2.1.2.2.2.2.2.2.2.2.1, hdu⟩ (by rw [hA.2.1.2.1, hA.2.1.1]) p1 p2 with ⟨q, M1, M2, a1, a2, a3, a4, ⟨nd2, a5⟩, ⟨np3, nd3, y1, y2, y3, y4, y5⟩, a7, a8, a9⟩ | ⟨a1, a2⟩ | ⟨a1, a2⟩
  · obtain rfl : np3 = np := by
      rw [a7 6 1 (by omega) (by omega) (by omega) (by omega) (by omega) (by omega), hA.2.1.1] at y3
      exact ((nI_eq (by have := hA.1.1; omega) (by omega)).mp y3).symm
    obtain rfl : nd3 = nd2 := by
      rw [a5.2.1.2.2.2.2.2.2.2.2.1] at y4
      exact ((nI_eq (by have := a5.1.2.2.2.2; omega) (by omega)).mp y4).symm
    have hIV2 : IV sh M2 (px_u L 219 0 q.toInt64) R np3 b := ⟨nw, nd3, wa, ch, ly, d, r, a, ⟨(hW.fr2 fun c j q => by
      rcases q with ⟨rfl, rfl⟩ | ⟨rfl, rfl⟩ | q | q
      · exact a8
      · exact a9
      · exact a7 c j (by omega) (by omega) (by omega) (by omega) (by omega) (by omega)
      · exact a7 c j (by omega) (by omega) (by omega) (by omega) (by omega) (by omega)).fr (fun _ _ _ => rfl) ((kp.rf.o (ks := []) _).sm (by decide)) (fun _ _ _ => rfl) (fun _ _ q => q), a5⟩, y5, hch⟩
    exact KI.ret (w_dust hS (by omega) a1) (fun _ _ _ _ _ _ q => q) (fun _ _ _ _ _ _ _ => hS) (fun hS => s_X12_dust hS (by omega) a2) (fun _ _ _ _ _ _ q => q) (by omega) a3 ⟨_, rfl, rfl⟩ (px_u_in _ _ _ _) (fun hS => h.go (ks := [3]) a4 (kp.rf.o _) kp.rf (fun _ _ q => q) h.1 (by omega) (Or.inl (by omega)) (fun q => absurd q (by decide)) (fun _ => I23.v ⟨nf, pa, fp, hA, hcu⟩ a4 kp.rf (fun _ _ q => q) (by omega) hIV2) (fun q => absurd q (by decide)) (fun q => absurd q (by decide)) (fun q => absurd q (by decide)) (fun q => absurd q (by decide)))
  · exact KI.thr h (w_dust_x3 hS (by omega) a1) (by decide) (by omega) (fun n' hn' => s_X12_dust hS (by omega) a2) (fun _ _ _ _ _ _ _ q => q) (px_t_in M _) ⟨_, rfl, rfl⟩ (px_t_kp M _)
  · exact KI.thr h (w_dust_x0 hS (by omega) a1) (by decide) (by omega) (fun n' hn' => s_X12_dust hS (by omega) a2) (fun _ _ _ _ _ _ _ q => q) (px_t_in M _) ⟨_, rfl, rfl⟩ (px_t_kp M _)
theorem k_least (h : IA c sh M L R n cu su) (p1 p2 : Int32) : KI X yL_least cL_least 5 [(0, 10, 13, 24), (0, 10, 17, 13)] yX12_least cX12_least 7 (some .int) [.ref 0, .int p1, .int p2, .ref 219] [.ref 73, .int p1, .int p2] bvI c sh M L R n cu su := by
  have hS := h.1.1
  obtain ⟨np, ⟨nf, pa, fp, hA, hcu⟩, b, hIV, hsu⟩ := h.2.2.1
  obtain ⟨nw, nd, wa, ch, ly, d, r, a, ⟨hW, hV⟩, hdu, hch⟩ := id hIV
  rcases p_least hW hV hA hS p1 p2 with ⟨w, hw, rfl, hRn, hc⟩ | ⟨q, M1, L1, M2, a1, a2, f1, f2, f3, f4, f5, f6⟩ | ⟨a1, a2⟩ | ⟨a1, a2⟩
  · obtain ⟨q, sh2, M0, L0, R0, ch2, ly2, M1, L1, M2, a1, a2, ⟨g, gR⟩, gV, gA, f1, f2, f3, f4, f5, f6⟩ := p_leastN hW hV hA hS h.1.2.1 h.1.2.2 hw hRn hc
    have k1 := g.k h.1 g.1 f2
    have k2 : kp sh [3] L (px_u L1 219 0 q.toInt64) := (g.k h.1 (fun c j q => by rw [g.2.1 c q]) f3).o _
    have k3 := g.r h.1
    have hIV2 : IV sh2 M2 (px_u L1 219 0 q.toInt64) R0 np (b + 1) := ⟨nw, nd, wa, ch2, ly2, d, r, a, ⟨f4.fr (fun _ _ _ => rfl) ((kp.rf.o (ks := []) _).sm (by decide)) (fun _ _ _ => rfl) (fun _ _ q => q), f5⟩, fun k hk => by rw [f6 16 k (by omega), g.1 16 k (by have := h.1.2.1; omega)]; exact hdu k hk, by rw [g.nn h.1 hW hw hRn gR]; omega⟩
    exact KI.ret (w_leastN hS (by omega) h.1.2.1 a1) (fun _ _ _ _ _ _ q => q.1) (fun _ _ _ _ _ _ q => q.2.1) (fun hS => s_X12_least hS (by omega) a2) (fun _ _ _ _ _ _ q => q) (by omega) f1 ⟨_, rfl, rfl⟩ (px_u_in _ _ _ _) (fun hS => h.go (ks := [3]) k1 k2 k3 (g.s h.1) ⟨hS, show 220 ≤ n + 2 by have := h.1.2.1; omega, g.2.2.2.2.2.1⟩ (by omega) (Or.inr (by decide)) (fun q => absurd q (by decide)) (fun _ => I23.v ⟨nf, pa, fp, hA, hcu⟩ k1 k3 (g.s h.1) (by omega) hIV2) (fun q => absurd q (by decide)) (fun q => absurd q (by decide)) (fun q => absurd q (by decide)) (fun q => absurd q (by decide)))
  · have k2 : kp sh [3] L (px_u L1 219 0 q.toInt64) := f3.o _
    have hIV2 : IV sh M2 (px_u L1 219 0 q.toInt64) R np b := ⟨nw, nd, wa, ch, ly, d, r, a, ⟨f4.fr (fun _ _ _ => rfl) ((kp.rf.o (ks := []) _).sm (by decide)) (fun _ _ _ => rfl) (fun _ _ q => q), f5⟩, fun k hk => by rw [f6 16 k (by omega)]; exact hdu k hk, hch⟩
    exact KI.ret (w_least hS (by omega) a1) (fun _ _ _ _ _ _ q => q) (fun _ _ _ _ _ _ _ => hS) (fun hS => s_X12_least hS (by omega) a2) (fun _ _ _ _ _ _ q => q) (by omega) f1 ⟨_, rfl, rfl⟩ (px_u_in _ _ _ _) (fun hS => h.go (ks := [3]) f2 k2 kp.rf (fun _ _ q => q) h.1 (by omega) (Or.inl (by omega)) (fun q => absurd q (by decide)) (fun _ => I23.v ⟨nf, pa, fp, hA, hcu⟩ f2 kp.rf (fun _ _ q => q) (by omega) hIV2) (fun q => absurd q (by decide)) (fun q => absurd q (by decide)) (fun q => absurd q (by decide)) (fun q => absurd q (by decide)))
  · exact KI.thr h (w_least_x2 hS (by omega) a1) (by decide) (by omega) (fun n' hn' => s_X12_least hS (by omega) a2) (fun _ _ _ _ _ _ _ q => q) (px_t_in M _) ⟨_, rfl, rfl⟩ (px_t_kp M _)
  · exact KI.thr h (w_least_x0 hS (by omega) a1) (by decide) (by omega) (fun n' hn' => s_X12_least hS (by omega) a2) (fun _ _ _ _ _ _ _ q => q) (px_t_in M _) ⟨_, rfl, rfl⟩ (px_t_kp M _)
theorem k_late (h : IA c sh M L R n cu su) (p1 p2 : Int32) : KI X yL_late cL_late 5 [(0, 10, 13, 24), (0, 10, 17, 13)] yX12_late cX12_late 3 (some .int) [.ref 0, .int p1, .int p2, .ref 219] [.ref 73, .int p1, .int p2] bvI c sh M L R n cu su := by
  have hS := h.1.1
  obtain ⟨np, ⟨nf, pa, fp, hA, hcu⟩, b, hIV, hsu⟩ := h.2.2.1
  obtain ⟨nw, nd, wa, ch, ly, d, r, a, ⟨hW, hV⟩, hdu, hch⟩ := id hIV
  rcases p_late hW hV hA hS p1 p2 with ⟨w, hw, rfl, hRn, hc⟩ | ⟨q, M1, L1, M2, a1, a2, f1, f2, f3, f4, f5, f6⟩ | ⟨a1, a2⟩ | ⟨a1, a2⟩
  · obtain ⟨q, sh2, M0, L0, R0, ch2, ly2, M1, L1, M2, a1, a2, ⟨g, gR⟩, gV, gA, f1, f2, f3, f4, f5, f6⟩ := p_lateN hW hV hA hS h.1.2.1 h.1.2.2 hw hRn hc
    have k1 := g.k h.1 g.1 f2
    have k2 : kp sh [3] L (px_u L1 219 0 q.toInt64) := (g.k h.1 (fun c j q => by rw [g.2.1 c q]) f3).o _
    have k3 := g.r h.1
    have hIV2 : IV sh2 M2 (px_u L1 219 0 q.toInt64) R0 np (b + 1) := ⟨nw, nd, wa, ch2, ly2, d, r, a, ⟨f4.fr (fun _ _ _ => rfl) ((kp.rf.o (ks := []) _).sm (by decide)) (fun _ _ _ => rfl) (fun _ _ q => q), f5⟩, fun k hk => by rw [f6 16 k (by omega), g.1 16 k (by have := h.1.2.1; omega)]; exact hdu k hk, by rw [g.nn h.1 hW hw hRn gR]; omega⟩
    exact KI.ret (w_lateN hS (by omega) h.1.2.1 a1) (fun _ _ _ _ _ _ q => q.1) (fun _ _ _ _ _ _ q => q.2.1) (fun hS => s_X12_late hS (by omega) a2) (fun _ _ _ _ _ _ q => q) (by omega) f1 ⟨_, rfl, rfl⟩ (px_u_in _ _ _ _) (fun hS => h.go (ks := [3]) k1 k2 k3 (g.s h.1) ⟨hS, show 220 ≤ n + 2 by have := h.1.2.1; omega, g.2.2.2.2.2.1⟩ (by omega) (Or.inr (by decide)) (fun q => absurd q (by decide)) (fun _ => I23.v ⟨nf, pa, fp, hA, hcu⟩ k1 k3 (g.s h.1) (by omega) hIV2) (fun q => absurd q (by decide)) (fun q => absurd q (by decide)) (fun q => absurd q (by decide)) (fun q => absurd q (by decide)))
  · have k2 : kp sh [3] L (px_u L1 219 0 q.toInt64) := f3.o _
    have hIV2 : IV sh M2 (px_u L1 219 0 q.toInt64) R np b := ⟨nw, nd, wa, ch, ly, d, r, a, ⟨f4.fr (fun _ _ _ => rfl) ((kp.rf.o (ks := []) _).sm (by decide)) (fun _ _ _ => rfl) (fun _ _ q => q), f5⟩, fun k hk => by rw [f6 16 k (by omega)]; exact hdu k hk, hch⟩
    exact KI.ret (w_late hS (by omega) a1) (fun _ _ _ _ _ _ q => q) (fun _ _ _ _ _ _ _ => hS) (fun hS => s_X12_late hS (by omega) a2) (fun _ _ _ _ _ _ q => q) (by omega) f1 ⟨_, rfl, rfl⟩ (px_u_in _ _ _ _) (fun hS => h.go (ks := [3]) f2 k2 kp.rf (fun _ _ q => q) h.1 (by omega) (Or.inl (by omega)) (fun q => absurd q (by decide)) (fun _ => I23.v ⟨nf, pa, fp, hA, hcu⟩ f2 kp.rf (fun _ _ q => q) (by omega) hIV2) (fun q => absurd q (by decide)) (fun q => absurd q (by decide)) (fun q => absurd q (by decide)) (fun q => absurd q (by decide)))
  · exact KI.thr h (w_late_x2 hS (by omega) a1) (by decide) (by omega) (fun n' hn' => s_X12_late hS (by omega) a2) (fun _ _ _ _ _ _ _ q => q) (px_t_in M _) ⟨_, rfl, rfl⟩ (px_t_kp M _)
  · exact KI.thr h (w_late_x0 hS (by omega) a1) (by decide) (by omega) (fun n' hn' => s_X12_late hS (by omega) a2) (fun _ _ _ _ _ _ _ q => q) (px_t_in M _) ⟨_, rfl, rfl⟩ (px_t_kp M _)
theorem k_window (h : IA c sh M L R n cu su) (p1 : Int32) : KI X yL_window cL_window 4 [(0, 9, 12, 24)] yX12_window cX12_window 6 (some .int) [.ref 0, .int p1, .ref 219] [.ref 73, .int p1] bvI c sh M L R n cu su := by
  have hS := h.1.1
  obtain ⟨np, ⟨nf, pa, fp, hA, hcu⟩, b, hIV, hsu⟩ := h.2.2.1
  obtain ⟨nw, nd, wa, ch, ly, d, r, a, ⟨hW, hV⟩, hdu, hch⟩ := id hIV
  rcases p_window hW hV hA hS p1 with ⟨w, hw, rfl, hRn⟩ | ⟨q, M1, L1, M2, a1, a2, f1, f2, f3, f4, f5, f6⟩ | ⟨a1, a2⟩
  · obtain ⟨q, sh2, M0, L0, R0, ch2, ly2, M1, L1, M2, a1, a2, ⟨g, gR⟩, gV, gA, f1, f2, f3, f4, f5, f6⟩ := p_windowN hW hV hA hS h.1.2.1 h.1.2.2 hw hRn 
    have k1 := g.k h.1 g.1 f2
    have k2 : kp sh [3] L (px_u L1 219 0 q.toInt64) := (g.k h.1 (fun c j q => by rw [g.2.1 c q]) f3).o _
    have k3 := g.r h.1
    have hIV2 : IV sh2 M2 (px_u L1 219 0 q.toInt64) R0 np (b + 1) := ⟨nw, nd, wa, ch2, ly2, d, r, a, ⟨f4.fr (fun _ _ _ => rfl) ((kp.rf.o (ks := []) _).sm (by decide)) (fun _ _ _ => rfl) (fun _ _ q => q), f5⟩, fun k hk => by rw [f6 16 k (by omega), g.1 16 k (by have := h.1.2.1; omega)]; exact hdu k hk, by rw [g.nn h.1 hW hw hRn gR]; omega⟩
    exact KI.ret (w_windowN hS (by omega) h.1.2.1 a1) (fun _ _ _ _ _ _ q => q.1) (fun _ _ _ _ _ _ q => q.2.1) (fun hS => s_X12_window hS (by omega) a2) (fun _ _ _ _ _ _ q => q) (by omega) f1 ⟨_, rfl, rfl⟩ (px_u_in _ _ _ _) (fun hS => h.go (ks := [3]) k1 k2 k3 (g.s h.1) ⟨hS, show 220 ≤ n + 2 by have := h.1.2.1; omega, g.2.2.2.2.2.1⟩ (by omega) (Or.inr (by decide)) (fun q => absurd q (by decide)) (fun _ => I23.v ⟨nf, pa, fp, hA, hcu⟩ k1 k3 (g.s h.1) (by omega) hIV2) (fun q => absurd q (by decide)) (fun q => absurd q (by decide)) (fun q => absurd q (by decide)) (fun q => absurd q (by decide)))
  · have k2 : kp sh [3] L (px_u L1 219 0 q.toInt64) := f3.o _
    have hIV2 : IV sh M2 (px_u L1 219 0 q.toInt64) R np b := ⟨nw, nd, wa, ch, ly, d, r, a, ⟨f4.fr (fun _ _ _ => rfl) ((kp.rf.o (ks := []) _).sm (by decide)) (fun _ _ _ => rfl) (fun _ _ q => q), f5⟩, fun k hk => by rw [f6 16 k (by omega)]; exact hdu k hk, hch⟩
    exact KI.ret (w_window hS (by omega) a1) (fun _ _ _ _ _ _ q => q) (fun _ _ _ _ _ _ _ => hS) (fun hS => s_X12_window hS (by omega) a2) (fun _ _ _ _ _ _ q => q) (by omega) f1 ⟨_, rfl, rfl⟩ (px_u_in _ _ _ _) (fun hS => h.go (ks := [3]) f2 k2 kp.rf (fun _ _ q => q) h.1 (by omega) (Or.inl (by omega)) (fun q => absurd q (by decide)) (fun _ => I23.v ⟨nf, pa, fp, hA, hcu⟩ f2 kp.rf (fun _ _ q => q) (by omega) hIV2) (fun q => absurd q (by decide)) (fun q => absurd q (by decide)) (fun q => absurd q (by decide)) (fun q => absurd q (by decide)))
  · exact KI.thr h (w_window_x2 hS (by omega) a1) (by decide) (by omega) (fun n' hn' => s_X12_window hS (by omega) a2) (fun _ _ _ _ _ _ _ q => q) (px_t_in M _) ⟨_, rfl, rfl⟩ (px_t_kp M _)
theorem k_rules (h : IA c sh M L R n cu su) (p1 : Int32) : KI X yL_rules cL_rules 4 [(0, 9, 12, 13)] yX12_rules cX12_rules 3 (some .int) [.ref 0, .int p1, .ref 219] [.ref 73, .int p1] bvI c sh M L R n cu su := by
  have hS := h.1.1
  obtain ⟨np, ⟨nf, pa, fp, hA, hcu⟩, b, hIV, hsu⟩ := h.2.2.1
  obtain ⟨nw, nd, wa, ch, ly, d, r, a, ⟨hW, hV⟩, hdu, hch⟩ := id hIV
  obtain ⟨vals, hNm, -⟩ := c_fill hA hW hV
  rcases p_rules hS h.2.2.2.1.1 h.2.2.2.1.2 hNm p1 with ⟨r9, M1, R1, M2, a1, a2, a3, a4, a5, a6, a7⟩ | ⟨a1, a2⟩
  · have k3 : kp sh [4] R R1 := fun c j q => a5 c j (fun z => q (by rw [z.1]; exact List.mem_cons_of_mem _ List.mem_cons_self)) (fun z => q (by rw [z.1]; exact List.mem_cons_of_mem _ List.mem_cons_self))
    exact KI.ret (w_rules hS (by omega) a1) (fun _ _ _ _ _ _ q => q.1) (fun _ _ _ _ _ _ q => q.2) (fun hS => s_X12_rules hS (by omega) a2) (fun _ _ _ _ _ _ q => q) (by omega) a3 ⟨_, rfl, rfl⟩ (px_u_in _ _ _ _) (fun hS => h.go (ks := [4]) a4 (kp.rf.o _) k3 (fun _ _ q => q) ⟨hS, h.1.2⟩ (by omega) (Or.inl (by omega)) (fun q => absurd q (by decide)) (fun q => absurd q (by decide)) (fun _ => ⟨a6, a7⟩) (fun q => absurd q (by decide)) (fun q => absurd q (by decide)) (fun q => absurd q (by decide)))
  · exact KI.thr h (w_rules_x0 hS (by omega) a1) (by decide) (by omega) (fun n' hn' => s_X12_rules hS (by omega) a2) (fun _ _ _ _ _ _ _ q => q) (px_t_in M _) ⟨_, rfl, rfl⟩ (px_t_kp M _)
theorem k_fly (h : IA c sh M L R n cu su) (p1 : Int32) : KI X yL_fly cL_fly 4 [(0, 9, 12, 13), (0, 9, 15, 19)] yX12_fly cX12_fly 4 (some .int) [.ref 0, .int p1, .ref 219] [.ref 73, .int p1] bvI c sh M L R n cu su := by
  have hS := h.1.1
  obtain ⟨np, ⟨nf, pa, fp, hA, hcu⟩, b, hIV, hsu⟩ := h.2.2.1
  obtain ⟨nw, nd, wa, ch, ly, d, r, a, ⟨hW, hV⟩, hdu, hch⟩ := id hIV
  obtain ⟨A, B, tx, m, Lr, hRu⟩ := h.2.2.2.1.2
  rcases p_fly hS (⟨hA, hW, hV, hdu, hcu, hRu⟩ : JI sh L R A B m tx Lr np nf nw nd pa fp wa ch ly d r a M) p1 with ⟨q, M1, M2, d2, r2, a2', a1, a2, a3, a4, b1, b2, b3, b4, b5, -⟩ | ⟨a1, a2⟩ | ⟨a1, a2⟩
  · have hIV2 : IV sh M2 (px_u L 219 0 q.toInt64) R np b := ⟨nw, nd, wa, ch, ly, d2, r2, a2', ⟨b2.fr (fun _ _ _ => rfl) ((kp.rf.o (ks := []) _).sm (by decide)) (fun _ _ _ => rfl) (fun _ _ q => q), b3⟩, b4, hch⟩
    exact KI.ret (w_fly hS (by omega) a1) (fun _ _ _ _ _ _ q => q) (fun _ _ _ _ _ _ _ => hS) (fun hS => s_X12_fly hS (by omega) a2) (fun _ _ _ _ _ _ q => q) (by omega) a3 ⟨_, rfl, rfl⟩ (px_u_in _ _ _ _) (fun hS => h.go (ks := [2, 3]) a4 (kp.rf.o _) kp.rf (fun _ _ q => q) h.1 (by omega) (Or.inl (by omega)) (fun q => absurd q (by decide)) (fun _ => ⟨np, ⟨nf, pa, fp, b1, b5⟩, b, hIV2, by omega⟩) (fun q => absurd q (by decide)) (fun q => absurd q (by decide)) (fun q => absurd q (by decide)) (fun q => absurd q (by decide)))
  · exact KI.thr h (w_fly_x0 hS (by omega) a1) (by decide) (by omega) (fun n' hn' => s_X12_fly hS (by omega) a2) (fun _ _ _ _ _ _ _ q => q) (px_t_in M _) ⟨_, rfl, rfl⟩ (px_t_kp M _)
  · exact KI.thr h (w_fly_x1 hS (by omega) a1) (by decide) (by omega) (fun n' hn' => s_X12_fly hS (by omega) a2) (fun _ _ _ _ _ _ _ q => q) (px_t_in M _) ⟨_, rfl, rfl⟩ (px_t_kp M _)
theorem k_coat (h : IA c sh M L R n cu su) (p1 p2 : Int32) : KI X yL_coat cL_coat 5 [(0, 10, 13, 13)] yX12_coat cX12_coat 3 (some .int) [.ref 0, .int p1, .int p2, .ref 219] [.ref 73, .int p1, .int p2] bvI c sh M L R n cu su := by
  have hS := h.1.1
  rcases p_coat (sh := sh) h.2.2.2.2.1 p1 p2 with ⟨r, M1, M2, a1, a2, a3, a4, a5⟩ | ⟨a1, a2⟩
  · exact KI.ret (w_coat hS (by omega) a1) (fun _ _ _ _ _ _ q => q) (fun _ _ _ _ _ _ _ => hS) (fun hS => s_X12_coat hS (by omega) a2) (fun _ _ _ _ _ _ q => q) (by omega) a3 ⟨_, rfl, rfl⟩ (px_u_in _ _ _ _) (fun hS => h.go (ks := [5]) a4 (kp.rf.o _) kp.rf (fun _ _ q => q) h.1 (by omega) (Or.inl (by omega)) (fun q => absurd q (by decide)) (fun q => absurd q (by decide)) (fun q => absurd q (by decide)) (fun _ => a5) (fun q => absurd q (by decide)) (fun q => absurd q (by decide)))
  · exact KI.thr h (w_coat_x0 hS (by omega) a1) (by decide) (by omega) (fun n' hn' => s_X12_coat hS (by omega) a2) (fun _ _ _ _ _ _ _ q => q) (px_t_in M _) ⟨_, rfl, rfl⟩ (px_t_kp M _)
theorem k_sight (h : IA c sh M L R n cu su) (p1 p2 p3 : Int32) : KI X yL_sight cL_sight 6 [(0, 12, 15, 13)] yX12_sight cX12_sight 4 (some .int) [.ref 0, .int p1, .int p2, .int p3, .ref 219] [.ref 73, .int p1, .int p2, .int p3] bvI c sh M L R n cu su := by
  have hS := h.1.1
  rcases p_sight (sh := sh) h.2.2.2.2.1 p1 p2 p3 with ⟨r, M1, M2, a1, a2, a3, a4, a5⟩ | ⟨a1, a2⟩
  · exact KI.ret (w_sight hS (by omega) a1) (fun _ _ _ _ _ _ q => q) (fun _ _ _ _ _ _ _ => hS) (fun hS => s_X12_sight hS (by omega) a2) (fun _ _ _ _ _ _ q => q) (by omega) a3 ⟨_, rfl, rfl⟩ (px_u_in _ _ _ _) (fun hS => h.go (ks := [5]) a4 (kp.rf.o _) kp.rf (fun _ _ q => q) h.1 (by omega) (Or.inl (by omega)) (fun q => absurd q (by decide)) (fun q => absurd q (by decide)) (fun q => absurd q (by decide)) (fun _ => a5) (fun q => absurd q (by decide)) (fun q => absurd q (by decide)))
  · exact KI.thr h (w_sight_x0 hS (by omega) a1) (by decide) (by omega) (fun n' hn' => s_X12_sight hS (by omega) a2) (fun _ _ _ _ _ _ _ q => q) (px_t_in M _) ⟨_, rfl, rfl⟩ (px_t_kp M _)
theorem k_fits (h : IA c sh M L R n cu su) (p1 : Int32) : KI X yL_fits cL_fits 4 [(0, 9, 12, 13)] yX12_fits cX12_fits 4 (some .int) [.ref 0, .int p1, .ref 219] [.ref 73, .int p1] bvI c sh M L R n cu su := by
  have hS := h.1.1
  obtain ⟨np, ⟨nf, pa, fp, hA, hcu⟩, b, hIV, hsu⟩ := h.2.2.1
  rcases p_fits ⟨np, nf, pa, fp, hA⟩ h.2.2.2.2.1 hS p1 with ⟨r, M1, M2, a1, a2, a3, a4, a5⟩ | ⟨a1, a2⟩
  · exact KI.ret (w_fits hS (by omega) a1) (fun _ _ _ _ _ _ q => q) (fun _ _ _ _ _ _ _ => hS) (fun hS => s_X12_fits hS (by omega) a2) (fun _ _ _ _ _ _ q => q) (by omega) a3 ⟨_, rfl, rfl⟩ (px_u_in _ _ _ _) (fun hS => h.go (ks := [5]) a4 (kp.rf.o _) kp.rf (fun _ _ q => q) h.1 (by omega) (Or.inl (by omega)) (fun q => absurd q (by decide)) (fun q => absurd q (by decide)) (fun q => absurd q (by decide)) (fun _ => a5) (fun q => absurd q (by decide)) (fun q => absurd q (by decide)))
  · exact KI.thr h (w_fits_x0 hS (by omega) a1) (by decide) (by omega) (fun n' hn' => s_X12_fits hS (by omega) a2) (fun _ _ _ _ _ _ _ q => q) (px_t_in M _) ⟨_, rfl, rfl⟩ (px_t_kp M _)
theorem k_fit (h : IA c sh M L R n cu su) (p1 p2 : Int32) : KI X yL_fit cL_fit 5 [(0, 10, 13, 13)] yX12_fit cX12_fit 4 (some .int) [.ref 0, .int p1, .int p2, .ref 219] [.ref 73, .int p1, .int p2] bvI c sh M L R n cu su := by
  have hS := h.1.1
  obtain ⟨np, ⟨nf, pa, fp, hA, hcu⟩, b, hIV, hsu⟩ := h.2.2.1
  rcases p_fit ⟨np, nf, pa, fp, hA⟩ h.2.2.2.2.1 hS p1 p2 with ⟨r, M1, M2, a1, a2, a3, a4, a5⟩ | ⟨a1, a2⟩
  · exact KI.ret (w_fit hS (by omega) a1) (fun _ _ _ _ _ _ q => q) (fun _ _ _ _ _ _ _ => hS) (fun hS => s_X12_fit hS (by omega) a2) (fun _ _ _ _ _ _ q => q) (by omega) a3 ⟨_, rfl, rfl⟩ (px_u_in _ _ _ _) (fun hS => h.go (ks := [5]) a4 (kp.rf.o _) kp.rf (fun _ _ q => q) h.1 (by omega) (Or.inl (by omega)) (fun q => absurd q (by decide)) (fun q => absurd q (by decide)) (fun q => absurd q (by decide)) (fun _ => a5) (fun q => absurd q (by decide)) (fun q => absurd q (by decide)))
  · exact KI.thr h (w_fit_x0 hS (by omega) a1) (by decide) (by omega) (fun n' hn' => s_X12_fit hS (by omega) a2) (fun _ _ _ _ _ _ _ q => q) (px_t_in M _) ⟨_, rfl, rfl⟩ (px_t_kp M _)
theorem k_shows (h : IA c sh M L R n cu su) (p1 : Int32) : KI X yL_shows cL_shows 4 [(0, 9, 12, 13)] yX12_shows cX12_shows 10 (some .int) [.ref 0, .int p1, .ref 219] [.ref 73, .int p1] bvI c sh M L R n cu su := by
  have hS := h.1.1
  obtain ⟨np, ⟨nf, pa, fp, hA, hcu⟩, b, hIV, hsu⟩ := h.2.2.1
  rcases p_shows (L := L) ⟨np, nf, pa, fp, hA⟩ h.2.2.2.2.1 hS p1 with ⟨r, M1, L1, M2, a1, a2, a3, a4, a5, a6⟩ | ⟨a1, a2⟩
  · exact KI.ret (w_shows hS (by omega) a1) (fun _ _ _ _ _ _ q => q) (fun _ _ _ _ _ _ _ => hS) (fun hS => s_X12_shows hS (by omega) a2) (fun _ _ _ _ _ _ q => q) (by omega) a3 ⟨_, rfl, rfl⟩ (px_u_in _ _ _ _) (fun hS => h.go (ks := [5]) a4 ((a5.mono (by decide)).o _) kp.rf (fun _ _ q => q) h.1 (by omega) (Or.inl (by omega)) (fun q => absurd q (by decide)) (fun q => absurd q (by decide)) (fun q => absurd q (by decide)) (fun _ => a6) (fun q => absurd q (by decide)) (fun q => absurd q (by decide)))
  · exact KI.thr h (w_shows_x0 hS (by omega) a1) (by decide) (by omega) (fun n' hn' => s_X12_shows hS (by omega) a2) (fun _ _ _ _ _ _ _ q => q) (px_t_in M _) ⟨_, rfl, rfl⟩ (px_t_kp M _)
theorem k_knot (h : IA c sh M L R n cu su) (p1 p2 p3 : Int32) (hz : zb p3 = true) : KI X yL_knot cL_knot 6 [(0, 12, 15, 13)] yX12_knot cX12_knot 4 (some .int) [.ref 0, .int p1, .int p2, .int p3, .ref 219] [.ref 73, .int p1, .int p2, .int p3] bvI c sh M L R n cu su := by
  have hS := h.1.1
  obtain ⟨nk, nt, bb, hN, hC, hP⟩ := h.2.2.2.2.2.1
  rcases p_knot (sh := sh) hN p1 p2 hz with ⟨r, M1, M2, a1, a2, a3, a4, ⟨nk2, nt2, a5⟩, a6⟩ | ⟨a1, a2⟩
  · have h6 : I6 sh M2 (px_u L 219 0 r.toInt64) R := by
      rcases a6 with a6 | a6
      · exact ⟨nk2, nt2, bb, a5, fun q => absurd a6 q, hP⟩
      · exact ⟨nk, nt, bb, hN.fr a6, hC.fr a6 ((kp.rf.o (ks := []) _).sm (by decide)), hP⟩
    exact KI.ret (w_knot hS (by omega) a1) (fun _ _ _ _ _ _ q => q) (fun _ _ _ _ _ _ _ => hS) (fun hS => s_X12_knot hS (by omega) a2) (fun _ _ _ _ _ _ q => q) (by omega) a3 ⟨_, rfl, rfl⟩ (px_u_in _ _ _ _) (fun hS => h.go (ks := [6]) a4 (kp.rf.o _) kp.rf (fun _ _ q => q) h.1 (by omega) (Or.inl (by omega)) (fun q => absurd q (by decide)) (fun q => absurd q (by decide)) (fun q => absurd q (by decide)) (fun q => absurd q (by decide)) (fun _ => h6) (fun q => absurd q (by decide)))
  · exact KI.thr h (w_knot_x0 hS (by omega) a1) (by decide) (by omega) (fun n' hn' => s_X12_knot hS (by omega) a2) (fun _ _ _ _ _ _ _ q => q) (px_t_in M _) ⟨_, rfl, rfl⟩ (px_t_kp M _)
theorem k_string (h : IA c sh M L R n cu su) (p1 p2 : Int32) : KI X yL_string cL_string 5 [(0, 10, 13, 24), (0, 10, 17, 13)] yX12_string cX12_string 4 (some .int) [.ref 0, .int p1, .int p2, .ref 219] [.ref 73, .int p1, .int p2] bvI c sh M L R n cu su := by
  have hS := h.1.1
  obtain ⟨nk, nt, bb, hN, hC, hP⟩ := h.2.2.2.2.2.1
  rcases p_string (sh := sh) hN p1 p2 with ⟨r, M1, M2, a1, a2, a3, a4, ⟨nk2, nt2, a5⟩, a6⟩ | ⟨a1, a2⟩ | ⟨a1, a2⟩
  · have h6 : I6 sh M2 (px_u L 219 0 r.toInt64) R := by
      rcases a6 with a6 | a6
      · exact ⟨nk2, nt2, bb, a5, fun q => absurd a6 q, hP⟩
      · exact ⟨nk, nt, bb, hN.fr a6, hC.fr a6 ((kp.rf.o (ks := []) _).sm (by decide)), hP⟩
    exact KI.ret (w_string hS (by omega) a1) (fun _ _ _ _ _ _ q => q) (fun _ _ _ _ _ _ _ => hS) (fun hS => s_X12_string hS (by omega) a2) (fun _ _ _ _ _ _ q => q) (by omega) a3 ⟨_, rfl, rfl⟩ (px_u_in _ _ _ _) (fun hS => h.go (ks := [6]) a4 (kp.rf.o _) kp.rf (fun _ _ q => q) h.1 (by omega) (Or.inl (by omega)) (fun q => absurd q (by decide)) (fun q => absurd q (by decide)) (fun q => absurd q (by decide)) (fun q => absurd q (by decide)) (fun _ => h6) (fun q => absurd q (by decide)))
  · exact KI.thr h (w_string_x2 hS (by omega) a1) (by decide) (by omega) (fun n' hn' => s_X12_string hS (by omega) a2) (fun _ _ _ _ _ _ _ q => q) (px_t_in M _) ⟨_, rfl, rfl⟩ (px_t_kp M _)
  · exact KI.thr h (w_string_x0 hS (by omega) a1) (by decide) (by omega) (fun n' hn' => s_X12_string hS (by omega) a2) (fun _ _ _ _ _ _ _ q => q) (px_t_in M _) ⟨_, rfl, rfl⟩ (px_t_kp M _)
theorem k_pull (h : IA c sh M L R n cu su) (p1 p2 p3 : Int32) : KI X yL_pull cL_pull 5 [(0, 7, 10, 24), (0, 7, 14, 13)] yX12_pull cX12_pull 4 none [.ref 0, .int p1, .int p2, .int p3] [.ref 73, .int p1, .int p2, .int p3] bvV c sh M L R n cu su := by
  have hS := h.1.1
  obtain ⟨nk, nt, bb, hN, hC, hP⟩ := h.2.2.2.2.2.1
  rcases p_pull (sh := sh) hN p1 p2 p3 with ⟨M1, M2, a1, a2, a3, a4, ⟨nk2, nt2, a5⟩, a6⟩ | ⟨a1, a2⟩ | ⟨a1, a2⟩
  · exact KI.ret (w_pull hS (by omega) a1) (fun _ _ _ _ _ _ q => q) (fun _ _ _ _ _ _ _ => hS) (fun hS => s_X12_pull hS (by omega) a2) (fun _ _ _ _ _ _ q => q) (by omega) a3 rfl rfl (fun hS => h.go (ks := [6]) a4 kp.rf kp.rf (fun _ _ q => q) h.1 (by omega) (Or.inl (by omega)) (fun q => absurd q (by decide)) (fun q => absurd q (by decide)) (fun q => absurd q (by decide)) (fun q => absurd q (by decide)) (fun _ => ⟨nk2, nt2, bb, a5, fun q => absurd a6 q, hP⟩) (fun q => absurd q (by decide)))
  · exact KI.thr (w := 0) h (w_pull_x2 hS (by omega) a1) (by decide) (by omega) (fun n' hn' => s_X12_pull hS (by omega) a2) (fun _ _ _ _ _ _ _ q => q) (px_t_in M _) rfl (px_t_kp M _)
  · exact KI.thr (w := 0) h (w_pull_x0 hS (by omega) a1) (by decide) (by omega) (fun n' hn' => s_X12_pull hS (by omega) a2) (fun _ _ _ _ _ _ _ q => q) (px_t_in M _) rfl (px_t_kp M _)
theorem k_slack (h : IA c sh M L R n cu su) (p1 : Int32) : KI X yL_slack cL_slack 4 [(0, 16, 19, 24)] yX12_slack cX12_slack 2 (some .boolean) [.ref 0, .int p1, .ref 219] [.ref 73, .int p1] bvZ c sh M L R n cu su := by
  have hS := h.1.1
  obtain ⟨nk, nt, bb, hN, hC, hP⟩ := h.2.2.2.2.2.1
  rcases p_slack hS hN hP hC p1 0 with ⟨r, M1, L1, R1, M2, L2, a1, -⟩ | ⟨a1, a2⟩
  · rcases p_slack hS hN hP hC p1 (if r = 0 then 0 else 1) with ⟨r2, M12, L12, R12, M22, L22, b1, -, a2, a3, a4, a5⟩ | ⟨b1, -⟩
    · obtain ⟨rfl, rfl, rfl, rfl⟩ : r = r2 ∧ M1 = M12 ∧ L1 = L12 ∧ R1 = R12 := by rw [a1] at b1; cases b1; exact ⟨rfl, rfl, rfl, rfl⟩
      obtain ⟨k1, k2, k3, k6⟩ := NetO.k (sh := sh) a4
      exact KI.ret (w_slack hS (by omega) a1) (fun _ _ _ _ _ _ q => q.1) (fun _ _ _ _ _ _ q => q.2) (fun hS => s_X12_slack hS (by omega) a2) (fun _ _ _ _ _ _ q => q) (by omega) a3 ⟨_, rfl, rfl⟩ a5 (fun hS => h.go (ks := [6]) k1 k2 k3 (fun _ _ q => q) ⟨hS, h.1.2⟩ (by omega) (Or.inl (by omega)) (fun q => absurd q (by decide)) (fun q => absurd q (by decide)) (fun q => absurd q (by decide)) (fun q => absurd q (by decide)) (fun _ => k6) (fun q => absurd q (by decide)))
    · rw [a1] at b1; cases b1
  · exact KI.thr h (w_slack_x2 hS (by omega) a1) (by decide) (by omega) (fun n' hn' => s_X12_slack hS (by omega) a2) (fun _ _ _ _ _ _ _ q => q) (px_t_in M _) ⟨_, rfl, rfl⟩ (px_t_kp M _)
theorem k_taut (h : IA c sh M L R n cu su) (p1 : Int32) : KI X yL_taut cL_taut 4 [(0, 16, 19, 24)] yX12_taut cX12_taut 3 (some .boolean) [.ref 0, .int p1, .ref 219] [.ref 73, .int p1] bvZ c sh M L R n cu su := by
  have hS := h.1.1
  obtain ⟨nk, nt, bb, hN, hC, hP⟩ := h.2.2.2.2.2.1
  rcases p_taut hS hN hP hC p1 0 with ⟨r, M1, L1, R1, M2, L2, a1, -⟩ | ⟨a1, a2⟩
  · rcases p_taut hS hN hP hC p1 (if r = 0 then 0 else 1) with ⟨r2, M12, L12, R12, M22, L22, b1, -, a2, a3, a4, a5⟩ | ⟨b1, -⟩
    · obtain ⟨rfl, rfl, rfl, rfl⟩ : r = r2 ∧ M1 = M12 ∧ L1 = L12 ∧ R1 = R12 := by rw [a1] at b1; cases b1; exact ⟨rfl, rfl, rfl, rfl⟩
      obtain ⟨k1, k2, k3, k6⟩ := NetO.k (sh := sh) a4
      exact KI.ret (w_taut hS (by omega) a1) (fun _ _ _ _ _ _ q => q.1) (fun _ _ _ _ _ _ q => q.2) (fun hS => s_X12_taut hS (by omega) a2) (fun _ _ _ _ _ _ q => q) (by omega) a3 ⟨_, rfl, rfl⟩ a5 (fun hS => h.go (ks := [6]) k1 k2 k3 (fun _ _ q => q) ⟨hS, h.1.2⟩ (by omega) (Or.inl (by omega)) (fun q => absurd q (by decide)) (fun q => absurd q (by decide)) (fun q => absurd q (by decide)) (fun q => absurd q (by decide)) (fun _ => k6) (fun q => absurd q (by decide)))
    · rw [a1] at b1; cases b1
  · exact KI.thr h (w_taut_x2 hS (by omega) a1) (by decide) (by omega) (fun n' hn' => s_X12_taut hS (by omega) a2) (fun _ _ _ _ _ _ _ q => q) (px_t_in M _) ⟨_, rfl, rfl⟩ (px_t_kp M _)
theorem k_ease (h : IA c sh M L R n cu su) (p1 : Int32) : KI X yL_ease cL_ease 4 [(0, 8, 11, 13)] yX12_ease cX12_ease 2 (some .long) [.ref 0, .int p1, .ref 219] [.ref 73, .int p1] bvJ c sh M L R n cu su := by
  have hS := h.1.1
  obtain ⟨nk, nt, bb, hN, hC, hP⟩ := h.2.2.2.2.2.1
  rcases p_ease hS hN hP hC p1 0 with ⟨r, M1, L1, R1, M2, L2, a1, -⟩ | ⟨a1, a2⟩
  · rcases p_ease hS hN hP hC p1 r with ⟨r2, M12, L12, R12, M22, L22, b1, -, a2, a3, a4, a5⟩ | ⟨b1, -⟩
    · obtain ⟨rfl, rfl, rfl, rfl⟩ : r = r2 ∧ M1 = M12 ∧ L1 = L12 ∧ R1 = R12 := by rw [a1] at b1; cases b1; exact ⟨rfl, rfl, rfl, rfl⟩
      obtain ⟨k1, k2, k3, k6⟩ := NetO.k (sh := sh) a4
      exact KI.ret (w_ease hS (by omega) a1) (fun _ _ _ _ _ _ q => q.1) (fun _ _ _ _ _ _ q => q.2) (fun hS => s_X12_ease hS (by omega) a2) (fun _ _ _ _ _ _ q => q) (by omega) a3 rfl a5 (fun hS => h.go (ks := [6]) k1 k2 k3 (fun _ _ q => q) ⟨hS, h.1.2⟩ (by omega) (Or.inl (by omega)) (fun q => absurd q (by decide)) (fun q => absurd q (by decide)) (fun q => absurd q (by decide)) (fun q => absurd q (by decide)) (fun _ => k6) (fun q => absurd q (by decide)))
    · rw [a1] at b1; cases b1
  · exact KI.thr h (w_ease_x0 hS (by omega) a1) (by decide) (by omega) (fun n' hn' => s_X12_ease hS (by omega) a2) (fun _ _ _ _ _ _ _ q => q) (px_t_in M _) rfl (px_t_kp M _)
theorem k_offer (h : IA c sh M L R n cu su) (p1 p2 p3 p4 : Int32) : KI X yL_offer cL_offer 7 [(0, 14, 17, 13)] yX12_offer cX12_offer 5 (some .int) [.ref 0, .int p1, .int p2, .int p3, .int p4, .ref 219] [.ref 73, .int p1, .int p2, .int p3, .int p4] bvI c sh M L R n cu su := by
  have hS := h.1.1
  rcases p_offer h.2.2.2.2.2.2.1 p1 p2 p3 p4 with ⟨r, M1, M2, a1, a2, a3, a4, a5⟩ | ⟨r, M2, a1, a2, a3, a4, a5⟩
  · exact KI.ret (w_offer hS (by omega) a1) (fun _ _ _ _ _ _ q => q) (fun _ _ _ _ _ _ _ => hS) (fun hS => s_X12_offer hS (by omega) a2) (fun _ _ _ _ _ _ q => q) (by omega) a3 ⟨_, rfl, rfl⟩ (px_u_in _ _ _ _) (fun hS => h.go (ks := [7]) (kp_cat a5) (kp.rf.o _) kp.rf (fun _ _ q => q) h.1 (by omega) (Or.inl (by omega)) (fun q => absurd q (by decide)) (fun q => absurd q (by decide)) (fun q => absurd q (by decide)) (fun q => absurd q (by decide)) (fun q => absurd q (by decide)) (fun _ => a4))
  · exact KI.thg h (w_offer_x0 hS (by omega) a1) (by decide) (by omega) (fun n' hn' => s_X12_offer hS (by omega) a2) (fun _ _ _ _ _ _ _ q => q) a3 ⟨_, rfl, rfl⟩ (fun n' hn' => h.go (ks := [7]) (kp_cat a5) kp.rf kp.rf (fun _ _ q => q) (h.1.w hn') (by omega) (Or.inl (by omega)) (fun q => absurd q (by decide)) (fun q => absurd q (by decide)) (fun q => absurd q (by decide)) (fun q => absurd q (by decide)) (fun q => absurd q (by decide)) (fun _ => a4))
theorem k_sheet (h : IA c sh M L R n cu su) (p1 p2 p3 : Int32) : KI X yL_sheet cL_sheet 6 [(0, 12, 15, 13)] yX12_sheet cX12_sheet 6 (some .int) [.ref 0, .int p1, .int p2, .int p3, .ref 219] [.ref 73, .int p1, .int p2, .int p3] bvI c sh M L R n cu su := by
  have hS := h.1.1
  rcases p_sheet h.2.2.2.2.2.2.1 p1 p2 p3 with ⟨r, M1, M2, a1, a2, a3, a4, a5⟩ | ⟨r, M2, a1, a2, a3, a4, a5⟩
  · exact KI.ret (w_sheet hS (by omega) a1) (fun _ _ _ _ _ _ q => q) (fun _ _ _ _ _ _ _ => hS) (fun hS => s_X12_sheet hS (by omega) a2) (fun _ _ _ _ _ _ q => q) (by omega) a3 ⟨_, rfl, rfl⟩ (px_u_in _ _ _ _) (fun hS => h.go (ks := [7]) (kp_cat a5) (kp.rf.o _) kp.rf (fun _ _ q => q) h.1 (by omega) (Or.inl (by omega)) (fun q => absurd q (by decide)) (fun q => absurd q (by decide)) (fun q => absurd q (by decide)) (fun q => absurd q (by decide)) (fun q => absurd q (by decide)) (fun _ => a4))
  · exact KI.thg h (w_sheet_x0 hS (by omega) a1) (by decide) (by omega) (fun n' hn' => s_X12_sheet hS (by omega) a2) (fun _ _ _ _ _ _ _ q => q) a3 ⟨_, rfl, rfl⟩ (fun n' hn' => h.go (ks := [7]) (kp_cat a5) kp.rf kp.rf (fun _ _ q => q) (h.1.w hn') (by omega) (Or.inl (by omega)) (fun q => absurd q (by decide)) (fun q => absurd q (by decide)) (fun q => absurd q (by decide)) (fun q => absurd q (by decide)) (fun q => absurd q (by decide)) (fun _ => a4))
theorem k_layer (h : IA c sh M L R n cu su) (p1 : Int32) : KD X yX11_layer cX11_layer 2 (some .int) yX12_layer cX12_layer 2 [.ref 0, .int p1] [.ref 73, .int p1] c sh M L R n cu su := by
  have hS := h.1.1
  obtain ⟨fn, fu, fo, frow, hF⟩ := h.2.1
  obtain ⟨r, a1, a2⟩ := p_layer hF p1
  exact KD.ret (s_X11_layer hS (by omega) a1) (fun _ _ _ _ _ _ q => q) (fun _ _ _ _ _ _ _ => hS) (fun hS => s_X12_layer hS (by omega) a2) (fun _ _ _ _ _ _ q => q) (fun hS => h.go (ks := []) (px_0_kp _ _) kp.rf kp.rf (fun _ _ q => q) h.1 (by omega) (Or.inl (by omega)) (fun q => absurd q (by decide)) (fun q => absurd q (by decide)) (fun q => absurd q (by decide)) (fun q => absurd q (by decide)) (fun q => absurd q (by decide)) (fun q => absurd q (by decide)))
theorem k_feed (h : IA c sh M L R n cu su) (p1 p2 p3 p4 p5 : Int32) : KD X yX11_feed cX11_feed 6 (some .int) yX12_feed cX12_feed 8 [.ref 0, .int p1, .int p2, .int p3, .int p4, .int p5] [.ref 73, .int p1, .int p2, .int p3, .int p4, .int p5] c sh M L R n cu su := by
  have hS := h.1.1
  obtain ⟨r, M1, M2, a1, a2, a3, a4, a5, a6⟩ := p_feed (sh := sh) h.2.2.2.1.1 p1 p2 p3 p4 p5
  obtain ⟨A, B, tx, m, Lr, hRu⟩ := h.2.2.2.1.2
  exact KD.ret (s_X11_feed hS (by omega) a1) (fun _ _ _ _ _ _ q => q) (fun _ _ _ _ _ _ _ => hS) (fun hS => s_X12_feed hS (by omega) a2) (fun _ _ _ _ _ _ q => q) (fun hS => h.go (ks := [4]) a4 kp.rf kp.rf (fun _ _ q => q) h.1 (by omega) (Or.inl (by omega)) (fun q => absurd q (by decide)) (fun q => absurd q (by decide)) (fun _ => ⟨a5, A, B, tx, m, Lr, hRu.fe a6⟩) (fun q => absurd q (by decide)) (fun q => absurd q (by decide)) (fun q => absurd q (by decide)))
theorem k_fault (h : IA c sh M L R n cu su) : KD X yX11_fault cX11_fault 1 (some .int) yX12_fault cX12_fault 1 [.ref 0] [.ref 73] c sh M L R n cu su := by
  have hS := h.1.1
  obtain ⟨A, B, tx, m, Lr, hRu⟩ := h.2.2.2.1.2
  obtain ⟨r, a1, a2⟩ := p_fault hRu.2.2.1
  exact KD.ret (s_X11_fault hS (by omega) a1) (fun _ _ _ _ _ _ q => q) (fun _ _ _ _ _ _ _ => hS) (fun hS => s_X12_fault hS (by omega) a2) (fun _ _ _ _ _ _ q => q) (fun hS => h.go (ks := []) (px_0_kp _ _) kp.rf kp.rf (fun _ _ q => q) h.1 (by omega) (Or.inl (by omega)) (fun q => absurd q (by decide)) (fun q => absurd q (by decide)) (fun q => absurd q (by decide)) (fun q => absurd q (by decide)) (fun q => absurd q (by decide)) (fun q => absurd q (by decide)))
theorem k_asks (h : IA c sh M L R n cu su) : KD X yX11_asks cX11_asks 2 (some .int) yX12_asks cX12_asks 1 [.ref 0] [.ref 73] c sh M L R n cu su := by
  have hS := h.1.1
  obtain ⟨np, ⟨nf, pa, fp, hA, hcu⟩, b, hIV, hsu⟩ := h.2.2.1
  obtain ⟨nw, nd, wa, ch, ly, d, r, a, ⟨hW, hV⟩, hdu, hch⟩ := id hIV
  obtain ⟨q, M1, M2, a1, a2, a3, a4⟩ := p_asks hS ⟨np, nf, pa, fp, hA⟩ hW hV h.2.2.2.1.2
  exact KD.ret (s_X11_asks hS (by omega) a1) (fun _ _ _ _ _ _ q => q) (fun _ _ _ _ _ _ _ => hS) (fun hS => s_X12_asks hS (by omega) a2) (fun _ _ _ _ _ _ q => q) (fun hS => h.go (ks := []) a4 kp.rf kp.rf (fun _ _ q => q) h.1 (by omega) (Or.inl (by omega)) (fun q => absurd q (by decide)) (fun q => absurd q (by decide)) (fun q => absurd q (by decide)) (fun q => absurd q (by decide)) (fun q => absurd q (by decide)) (fun q => absurd q (by decide)))
theorem k_hangs (h : IA c sh M L R n cu su) : KD X yX11_hangs cX11_hangs 1 (some .boolean) yX12_hangs cX12_hangs 1 [.ref 0] [.ref 73] c sh M L R n cu su := by
  have hS := h.1.1
  obtain ⟨nk, nt, bb, hN, hC, hP⟩ := h.2.2.2.2.2.1
  obtain ⟨r, M1, L1, R1, M2, L2, a1, a2, a3, a4, a5⟩ := p_hangs2 hS hN hP hC
  obtain ⟨k1, k2, k3, k6⟩ := NetO.k (sh := sh) a4
  exact KD.ret (s_X11_hangs hS (by omega) a1) (fun _ _ _ _ _ _ q => q.1) (fun _ _ _ _ _ _ q => q.2) (fun hS => s_X12_hangs hS (by omega) a2) (fun _ _ _ _ _ _ q => q) (fun hS => h.go (ks := [6]) k1 k2 k3 (fun _ _ q => q) ⟨hS, h.1.2⟩ (by omega) (Or.inl (by omega)) (fun q => absurd q (by decide)) (fun q => absurd q (by decide)) (fun q => absurd q (by decide)) (fun q => absurd q (by decide)) (fun _ => k6) (fun q => absurd q (by decide)))
theorem k_cut (h : IA c sh M L R n cu su) : KD X yX11_cut cX11_cut 1 (some .int) yX12_cut cX12_cut 2 [.ref 0] [.ref 73] c sh M L R n cu su := by
  have hS := h.1.1
  obtain ⟨nk, nt, bb, hN, hC, hP⟩ := h.2.2.2.2.2.1
  obtain ⟨r, M1, M2, a1, a2, a3, a4, ⟨nk2, nt2, a5⟩, a6⟩ := p_cut (sh := sh) hN
  exact KD.ret (s_X11_cut hS (by omega) a1) (fun _ _ _ _ _ _ q => q) (fun _ _ _ _ _ _ _ => hS) (fun hS => s_X12_cut hS (by omega) a2) (fun _ _ _ _ _ _ q => q) (fun hS => h.go (ks := [6]) a4 kp.rf kp.rf (fun _ _ q => q) h.1 (by omega) (Or.inl (by omega)) (fun q => absurd q (by decide)) (fun q => absurd q (by decide)) (fun q => absurd q (by decide)) (fun q => absurd q (by decide)) (fun _ => ⟨nk2, nt2, bb, a5, fun q => absurd a6 q, hP⟩) (fun q => absurd q (by decide)))
theorem k_count (h : IA c sh M L R n cu su) (p1 : Int32) : KD X yX11_count cX11_count 2 (some .int) yX12_count cX12_count 4 [.ref 0, .int p1] [.ref 73, .int p1] c sh M L R n cu su := by
  have hS := h.1.1
  obtain ⟨np, ⟨nf, pa, fp, hA, hcu⟩, b, hIV, hsu⟩ := h.2.2.1
  obtain ⟨nw, nd, wa, ch, ly, d, r, a, ⟨hW, hV⟩, hdu, hch⟩ := id hIV
  obtain ⟨nk, nt, bb, hN, hC, hP⟩ := h.2.2.2.2.2.1
  obtain ⟨A, B, tx, m, Lr, hRu⟩ := h.2.2.2.1.2
  obtain ⟨t, -, t2, t3, -⟩ := h.2.2.2.1.1
  obtain ⟨nc, ns, -, u2, -⟩ := h.2.2.2.2.1
  obtain ⟨kc, -, v2, v3, -⟩ := h.2.2.2.2.2.2.1
  have hk : hk sh A 7 = true := by
    rcases hRu.1 with ⟨rfl, -⟩ | ⟨rfl, -⟩
    · exact hk_t (sc_22 hS)
    · exact hk_t (sc_68 hS)
  obtain ⟨q, a1, a2⟩ := p_count hW hV hA h.2.1 ⟨by rw [hA.2.1.1, hA.2.1.2.1], by rw [hA.2.1.2.2.1, hA.2.1.2.2.2.1]⟩ (by rw [t2, t3]) ⟨by rw [u2.1, u2.2.1], by rw [u2.2.2.1, u2.2.2.2]⟩ ⟨by rw [hN.2.1.1, hN.2.1.2.1], by rw [hN.2.1.2.2.1, hN.2.1.2.2.2]⟩ (by rw [v2, v3]) ⟨hRu.2.1.1, hk, by rw [hRu.2.2.2.2.1.2.1, hRu.2.2.2.2.1.1]⟩ p1
  exact KD.ret (s_X11_count hS (by omega) a1) (fun _ _ _ _ _ _ q => q) (fun _ _ _ _ _ _ _ => hS) (fun hS => s_X12_count hS (by omega) a2) (fun _ _ _ _ _ _ q => q) (fun hS => h.go (ks := []) (px_0_kp _ _) kp.rf kp.rf (fun _ _ q => q) h.1 (by omega) (Or.inl (by omega)) (fun q => absurd q (by decide)) (fun q => absurd q (by decide)) (fun q => absurd q (by decide)) (fun q => absurd q (by decide)) (fun q => absurd q (by decide)) (fun q => absurd q (by decide)))
end CALLS
