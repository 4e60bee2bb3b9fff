/-! the law's wrappers -/
def px_wx (v : Int32) (sh : px_Sh) (M : px_M) (L : px_L) (R : px_R) (n : Nat) : px_Post := fun w sh' M' L' R' n' => w = some (.int v) ∧ sh' = sh ∧ M' = M ∧ L' = L ∧ R' = R ∧ n ≤ n'
theorem px_0e {P : ExceptionTableEntry → Prop} : ∀ z ∈ ([] : List ExceptionTableEntry), P z := fun _ h => absurd h List.not_mem_nil
theorem wl_angle : Cond.methodLink RL 76 yX11_angle ∈ px_G := px_mem 1103 (by decide +kernel) rfl
theorem wl_bend : Cond.methodLink RL 52 yX11_bend ∈ px_G := px_mem 976 (by decide +kernel) rfl
theorem wl_clear : Cond.methodLink RL 21 yX11_clear ∈ px_G := px_mem 772 (by decide +kernel) rfl
theorem wl_coat : Cond.methodLink RL 97 yX11_coat ∈ px_G := px_mem 1391 (by decide +kernel) rfl
theorem wl_dust : Cond.methodLink RL 88 yX11_dust ∈ px_G := px_mem 1336 (by decide +kernel) rfl
theorem wl_ease : Cond.methodLink RL 129 yX11_ease ∈ px_G := px_mem 1542 (by decide +kernel) rfl
theorem wl_fit : Cond.methodLink RL 106 yX11_fit ∈ px_G := px_mem 1455 (by decide +kernel) rfl
theorem wl_fits : Cond.methodLink RL 103 yX11_fits ∈ px_G := px_mem 1414 (by decide +kernel) rfl
theorem wl_flap : Cond.methodLink RL 49 yX11_flap ∈ px_G := px_mem 965 (by decide +kernel) rfl
theorem wl_fly : Cond.methodLink RL 91 yX11_fly ∈ px_G := px_mem 1347 (by decide +kernel) rfl
theorem wl_goal : Cond.methodLink RL 82 yX11_goal ∈ px_G := px_mem 1196 (by decide +kernel) rfl
theorem wl_knot : Cond.methodLink RL 112 yX11_knot ∈ px_G := px_mem 1482 (by decide +kernel) rfl
theorem wl_late : Cond.methodLink RL 140 yX11_late ∈ px_G := px_mem 1587 (by decide +kernel) rfl
theorem wl_least : Cond.methodLink RL 79 yX11_least ∈ px_G := px_mem 1112 (by decide +kernel) rfl
theorem wl_lies : Cond.methodLink RL 15 yX11_lies ∈ px_G := px_mem 737 (by decide +kernel) rfl
theorem wl_note : Cond.methodLink RL 94 yX11_note ∈ px_G := px_mem 1379 (by decide +kernel) rfl
theorem wl_of : Cond.methodLink RL 41 yX11_of ∈ px_G := px_mem 923 (by decide +kernel) rfl
theorem wl_offer : Cond.methodLink RL 133 yX11_offer ∈ px_G := px_mem 1550 (by decide +kernel) rfl
theorem wl_open : Cond.methodLink RL 26 yX11_open ∈ px_G := px_mem 813 (by decide +kernel) rfl
theorem wl_orders : Cond.methodLink RL 30 yX11_orders ∈ px_G := px_mem 825 (by decide +kernel) rfl
theorem wl_panel : Cond.methodLink RL 37 yX11_panel ∈ px_G := px_mem 857 (by decide +kernel) rfl
theorem wl_pull : Cond.methodLink RL 116 yX11_pull ∈ px_G := px_mem 1493 (by decide +kernel) rfl
theorem wl_push : Cond.methodLink RL 63 yX11_push ∈ px_G := px_mem 1001 (by decide +kernel) rfl
theorem wl_rules : Cond.methodLink RL 85 yX11_rules ∈ px_G := px_mem 1203 (by decide +kernel) rfl
theorem wl_safe : Cond.methodLink RL 34 yX11_safe ∈ px_G := px_mem 840 (by decide +kernel) rfl
theorem wl_sheet : Cond.methodLink RL 137 yX11_sheet ∈ px_G := px_mem 1561 (by decide +kernel) rfl
theorem wl_shows : Cond.methodLink RL 109 yX11_shows ∈ px_G := px_mem 1467 (by decide +kernel) rfl
theorem wl_sight : Cond.methodLink RL 100 yX11_sight ∈ px_G := px_mem 1402 (by decide +kernel) rfl
theorem wl_slack : Cond.methodLink RL 123 yX11_slack ∈ px_G := px_mem 1524 (by decide +kernel) rfl
theorem wl_string : Cond.methodLink RL 120 yX11_string ∈ px_G := px_mem 1509 (by decide +kernel) rfl
theorem wl_strip : Cond.methodLink RL 7 yX11_strip ∈ px_G := px_mem 627 (by decide +kernel) rfl
theorem wl_stuck : Cond.methodLink RL 55 yX11_stuck ∈ px_G := px_mem 987 (by decide +kernel) rfl
theorem wl_taut : Cond.methodLink RL 126 yX11_taut ∈ px_G := px_mem 1535 (by decide +kernel) rfl
theorem wl_tear : Cond.methodLink RL 46 yX11_tear ∈ px_G := px_mem 958 (by decide +kernel) rfl
theorem wl_trim : Cond.methodLink RL 69 yX11_trim ∈ px_G := px_mem 1044 (by decide +kernel) rfl
theorem wl_turn : Cond.methodLink RL 66 yX11_turn ∈ px_G := px_mem 1025 (by decide +kernel) rfl
theorem wl_weights : Cond.methodLink RL 59 yX11_weights ∈ px_G := px_mem 994 (by decide +kernel) rfl
theorem wl_window : Cond.methodLink RL 143 yX11_window ∈ px_G := px_mem 1598 (by decide +kernel) rfl
theorem wl_world : Cond.methodLink RL 72 yX11_world ∈ px_G := px_mem 1074 (by decide +kernel) rfl
theorem w_angle {d : Nat} {X : Nat × (Nat → Int32)} {sh : px_Sh} {M : px_M} {L : px_L} {R : px_R} {n : Nat} {p1 : Int32} {p2 : Int32} {e : Int32} (hS : SR sh R) (hd : 8 ≤ d) (h : f_X11_angle sh M R p1 p2 = some (.inl e)) : MXW yL_angle cL_angle 5 (some .int) [(0, 10, 13, 24), (0, 10, 17, 13)] d 0 0 X [.ref 0, .int p1, .int p2, .ref 219] sh M L R n (px_pu (some (.int 0)) sh M (px_u L 219 0 (e : Int32).toInt64) R n) := by
  refine MXW.of (by decide +kernel) (by exact Nat.le_of_ble_eq_true rfl) ?_
  refine wx_aload_n dL_angle_0 rfl ?_
  refine wx_iconst (v := 0) dL_angle_1 (by decide) ?_
  refine wx_aload_n dL_angle_2 rfl ?_
  refine wx_iload_n dL_angle_3 rfl ?_
  refine wx_iload_n dL_angle_4 rfl ?_
  refine wx_tryV dL_angle_5 wl_angle my_X11_angle iv_X11_angle (sc_0 hS) (by decide) (s_X11_angle (d := d - 1) hS (by omega) h) rfl (by omega) (by exact Nat.le_of_ble_eq_true rfl) (by omega) (by omega) (fun _ _ _ _ _ _ q => q.elim) ?_
  rintro v sh' M' L' R' n' ⟨rfl, rfl, rfl, rfl, rfl, rfl⟩
  refine wx_i2l dL_angle_8 ?_
  refine wx_lastk (k := 0) dL_angle_9 (sc_219 hS) rfl (by decide) (by decide) ?_
  refine wx_goto (tgt := 21) dL_angle_10 (by decide) ?_
  refine wx_iconst (v := 0) dL_angle_21 (by decide) ?_
  refine wx_iret dL_angle_22 (by omega) (by omega) ?_
  exact ⟨rfl, rfl, rfl, rfl, rfl, rfl⟩
theorem w_angle_x2 {d : Nat} {X : Nat × (Nat → Int32)} {sh : px_Sh} {M : px_M} {L : px_L} {R : px_R} {n : Nat} {p1 : Int32} {p2 : Int32} (hS : SR sh R) (hd : 8 ≤ d) (h : f_X11_angle sh M R p1 p2 = some (.inr 2)) : MXW yL_angle cL_angle 5 (some .int) [(0, 10, 13, 24), (0, 10, 17, 13)] d 1 6 X [.ref 0, .int p1, .int p2, .ref 219] sh M L R n (px_wx 1 sh M L R n) := by
  refine MXW.of (by decide +kernel) (by exact Nat.le_of_ble_eq_true rfl) ?_
  refine wx_aload_n dL_angle_0 rfl ?_
  refine wx_iconst (v := 0) dL_angle_1 (by decide) ?_
  refine wx_aload_n dL_angle_2 rfl ?_
  refine wx_iload_n dL_angle_3 rfl ?_
  refine wx_iload_n dL_angle_4 rfl ?_
  refine wx_tryV dL_angle_5 wl_angle my_X11_angle iv_X11_angle (sc_0 hS) (by decide) (x_X11_angle (d := d - 1) hS (by omega) h) rfl (by omega) (by exact Nat.le_of_ble_eq_true rfl) (by omega) (by omega) ?_ (fun _ _ _ _ _ _ q => q.elim)
  rintro E sh' M' L' R' n' ⟨rfl, rfl, rfl, rfl, rfl, hn'⟩
  exact ⟨1, ⟨[], _, _, rfl, px_0e, by decide, by decide, by decide, cx_24, ca_IOOBE, (Or.inr ⟨4, 1, dL_angle_13, by decide, dL_angle_15, by decide, dL_angle_16⟩)⟩, rfl, rfl, rfl, rfl, rfl, hn'⟩
theorem w_angle_x0 {d : Nat} {X : Nat × (Nat → Int32)} {sh : px_Sh} {M : px_M} {L : px_L} {R : px_R} {n : Nat} {p1 : Int32} {p2 : Int32} (hS : SR sh R) (hd : 8 ≤ d) (h : f_X11_angle sh M R p1 p2 = some (.inr 0)) : MXW yL_angle cL_angle 5 (some .int) [(0, 10, 13, 24), (0, 10, 17, 13)] d 1 6 X [.ref 0, .int p1, .int p2, .ref 219] sh M L R n (px_wx 2 sh M L R n) := by
  refine MXW.of (by decide +kernel) (by exact Nat.le_of_ble_eq_true rfl) ?_
  refine wx_aload_n dL_angle_0 rfl ?_
  refine wx_iconst (v := 0) dL_angle_1 (by decide) ?_
  refine wx_aload_n dL_angle_2 rfl ?_
  refine wx_iload_n dL_angle_3 rfl ?_
  refine wx_iload_n dL_angle_4 rfl ?_
  refine wx_tryV dL_angle_5 wl_angle my_X11_angle iv_X11_angle (sc_0 hS) (by decide) (x_X11_angle (d := d - 1) hS (by omega) h) rfl (by omega) (by exact Nat.le_of_ble_eq_true rfl) (by omega) (by omega) ?_ (fun _ _ _ _ _ _ q => q.elim)
  rintro E sh' M' L' R' n' ⟨rfl, rfl, rfl, rfl, rfl, hn'⟩
  exact ⟨2, ⟨[_], _, _, rfl, (fun z hz => by
      simp only [List.mem_cons, List.not_mem_nil, or_false] at hz
      rcases hz with rfl
      · exact ⟨by decide, "java/lang/IndexOutOfBoundsException", by decide, by decide, cx_24⟩), by decide, by decide, by decide, cx_13, ca_IAE, (Or.inr ⟨4, 2, dL_angle_17, by decide, dL_angle_19, by decide, dL_angle_20⟩)⟩, rfl, rfl, rfl, rfl, rfl, hn'⟩
theorem w_bend {d : Nat} {X : Nat × (Nat → Int32)} {sh : px_Sh} {M : px_M} {L : px_L} {R : px_R} {n : Nat} {p1 : Int32} {p2 : Int32} {e : Int32 × px_M} (hS : SR sh R) (hd : 8 ≤ d) (h : f_X11_bend sh M R p1 p2 = some (.inl e)) : MXW yL_bend cL_bend 5 (some .int) [(0, 10, 13, 24), (0, 10, 17, 13)] d 0 0 X [.ref 0, .int p1, .int p2, .ref 219] sh M L R n (px_pu (some (.int 0)) sh e.2 (px_u L 219 0 (e.1 : Int32).toInt64) R n) := by
  refine MXW.of (by decide +kernel) (by exact Nat.le_of_ble_eq_true rfl) ?_
  refine wx_aload_n dL_bend_0 rfl ?_
  refine wx_iconst (v := 0) dL_bend_1 (by decide) ?_
  refine wx_aload_n dL_bend_2 rfl ?_
  refine wx_iload_n dL_bend_3 rfl ?_
  refine wx_iload_n dL_bend_4 rfl ?_
  refine wx_tryV dL_bend_5 wl_bend my_X11_bend iv_X11_bend (sc_0 hS) (by decide) (s_X11_bend (d := d - 1) hS (by omega) h) rfl (by omega) (by exact Nat.le_of_ble_eq_true rfl) (by omega) (by omega) (fun _ _ _ _ _ _ q => q.elim) ?_
  rintro v sh' M' L' R' n' ⟨rfl, rfl, rfl, rfl, rfl, rfl⟩
  refine wx_i2l dL_bend_8 ?_
  refine wx_lastk (k := 0) dL_bend_9 (sc_219 hS) rfl (by decide) (by decide) ?_
  refine wx_goto (tgt := 21) dL_bend_10 (by decide) ?_
  refine wx_iconst (v := 0) dL_bend_21 (by decide) ?_
  refine wx_iret dL_bend_22 (by omega) (by omega) ?_
  exact ⟨rfl, rfl, rfl, rfl, rfl, rfl⟩
theorem w_bend_x2 {d : Nat} {X : Nat × (Nat → Int32)} {sh : px_Sh} {M : px_M} {L : px_L} {R : px_R} {n : Nat} {p1 : Int32} {p2 : Int32} (hS : SR sh R) (hd : 8 ≤ d) (h : f_X11_bend sh M R p1 p2 = some (.inr 2)) : MXW yL_bend cL_bend 5 (some .int) [(0, 10, 13, 24), (0, 10, 17, 13)] d 1 6 X [.ref 0, .int p1, .int p2, .ref 219] sh M L R n (px_wx 1 sh M L R n) := by
  refine MXW.of (by decide +kernel) (by exact Nat.le_of_ble_eq_true rfl) ?_
  refine wx_aload_n dL_bend_0 rfl ?_
  refine wx_iconst (v := 0) dL_bend_1 (by decide) ?_
  refine wx_aload_n dL_bend_2 rfl ?_
  refine wx_iload_n dL_bend_3 rfl ?_
  refine wx_iload_n dL_bend_4 rfl ?_
  refine wx_tryV dL_bend_5 wl_bend my_X11_bend iv_X11_bend (sc_0 hS) (by decide) (x_X11_bend (d := d - 1) hS (by omega) h) rfl (by omega) (by exact Nat.le_of_ble_eq_true rfl) (by omega) (by omega) ?_ (fun _ _ _ _ _ _ q => q.elim)
  rintro E sh' M' L' R' n' ⟨rfl, rfl, rfl, rfl, rfl, hn'⟩
  exact ⟨1, ⟨[], _, _, rfl, px_0e, by decide, by decide, by decide, cx_24, ca_IOOBE, (Or.inr ⟨4, 1, dL_bend_13, by decide, dL_bend_15, by decide, dL_bend_16⟩)⟩, rfl, rfl, rfl, rfl, rfl, hn'⟩
theorem w_bend_x0 {d : Nat} {X : Nat × (Nat → Int32)} {sh : px_Sh} {M : px_M} {L : px_L} {R : px_R} {n : Nat} {p1 : Int32} {p2 : Int32} (hS : SR sh R) (hd : 8 ≤ d) (h : f_X11_bend sh M R p1 p2 = some (.inr 0)) : MXW yL_bend cL_bend 5 (some .int) [(0, 10, 13, 24), (0, 10, 17, 13)] d 1 6 X [.ref 0, .int p1, .int p2, .ref 219] sh M L R n (px_wx 2 sh M L R n) := by
  refine MXW.of (by decide +kernel) (by exact Nat.le_of_ble_eq_true rfl) ?_
  refine wx_aload_n dL_bend_0 rfl ?_
  refine wx_iconst (v := 0) dL_bend_1 (by decide) ?_
  refine wx_aload_n dL_bend_2 rfl ?_
  refine wx_iload_n dL_bend_3 rfl ?_
  refine wx_iload_n dL_bend_4 rfl ?_
  refine wx_tryV dL_bend_5 wl_bend my_X11_bend iv_X11_bend (sc_0 hS) (by decide) (x_X11_bend (d := d - 1) hS (by omega) h) rfl (by omega) (by exact Nat.le_of_ble_eq_true rfl) (by omega) (by omega) ?_ (fun _ _ _ _ _ _ q => q.elim)
  rintro E sh' M' L' R' n' ⟨rfl, rfl, rfl, rfl, rfl, hn'⟩
  exact ⟨2, ⟨[_], _, _, rfl, (fun z hz => by
      simp only [List.mem_cons, List.not_mem_nil, or_false] at hz
      rcases hz with rfl
      · exact ⟨by decide, "java/lang/IndexOutOfBoundsException", by decide, by decide, cx_24⟩), by decide, by decide, by decide, cx_13, ca_IAE, (Or.inr ⟨4, 2, dL_bend_17, by decide, dL_bend_19, by decide, dL_bend_20⟩)⟩, rfl, rfl, rfl, rfl, rfl, hn'⟩
theorem w_clear {d : Nat} {X : Nat × (Nat → Int32)} {sh : px_Sh} {M : px_M} {L : px_L} {R : px_R} {n : Nat} {p1 : Int32} {e : Int32} (hS : SR sh R) (hd : 8 ≤ d) (h : f_X11_clear M p1 = some (.inl e)) : MXW yL_clear cL_clear 4 (some .int) [(0, 16, 19, 19), (0, 16, 22, 24), (0, 16, 25, 13)] d 0 0 X [.ref 0, .int p1, .ref 219] sh M L R n (px_pu (some (.int 0)) sh M (px_u L 219 0 (if e = 0 then 0 else 1)) R n) := by
  refine MXW.of (by decide +kernel) (by exact Nat.le_of_ble_eq_true rfl) ?_
  refine wx_aload_n dL_clear_0 rfl ?_
  refine wx_iconst (v := 0) dL_clear_1 (by decide) ?_
  refine wx_aload_n dL_clear_2 rfl ?_
  refine wx_iload_n dL_clear_3 rfl ?_
  refine wx_tryV dL_clear_4 wl_clear my_X11_clear iv_X11_clear (sc_0 hS) (by decide) (s_X11_clear (d := d - 1) hS (by omega) h) rfl (by omega) (by exact Nat.le_of_ble_eq_true rfl) (by omega) (by omega) (fun _ _ _ _ _ _ q => q.elim) ?_
  rintro v sh' M' L' R' n' ⟨rfl, rfl, rfl, rfl, rfl, rfl⟩
  refine wx_if_eq (tgt := 14) dL_clear_7 (by decide) (fun cz => ?_) (fun cz => ?_)
  · refine wx_lconst (v := 0) dL_clear_14 (by decide) ?_
    refine wx_lastk (k := 0) dL_clear_15 (sc_219 hS) rfl (by decide) (by decide) ?_
    refine wx_goto (tgt := 28) dL_clear_16 (by decide) ?_
    refine wx_iconst (v := 0) dL_clear_28 (by decide) ?_
    refine wx_iret dL_clear_29 (by omega) (by omega) ?_
    exact ⟨rfl, rfl, rfl, by rw [if_pos cz], rfl, rfl⟩
  · refine wx_lconst (v := 1) dL_clear_10 (by decide) ?_
    refine wx_goto (tgt := 15) dL_clear_11 (by decide) ?_
    refine wx_lastk (k := 0) dL_clear_15 (sc_219 hS) rfl (by decide) (by decide) ?_
    refine wx_goto (tgt := 28) dL_clear_16 (by decide) ?_
    refine wx_iconst (v := 0) dL_clear_28 (by decide) ?_
    refine wx_iret dL_clear_29 (by omega) (by omega) ?_
    exact ⟨rfl, rfl, rfl, by rw [if_neg cz], rfl, rfl⟩
theorem w_clear_x1 {d : Nat} {X : Nat × (Nat → Int32)} {sh : px_Sh} {M : px_M} {L : px_L} {R : px_R} {n : Nat} {p1 : Int32} (hS : SR sh R) (hd : 8 ≤ d) (h : f_X11_clear M p1 = some (.inr 1)) : MXW yL_clear cL_clear 4 (some .int) [(0, 16, 19, 19), (0, 16, 22, 24), (0, 16, 25, 13)] d 1 6 X [.ref 0, .int p1, .ref 219] sh M L R n (px_wx 1 sh M L R n) := by
  refine MXW.of (by decide +kernel) (by exact Nat.le_of_ble_eq_true rfl) ?_
  refine wx_aload_n dL_clear_0 rfl ?_
  refine wx_iconst (v := 0) dL_clear_1 (by decide) ?_
  refine wx_aload_n dL_clear_2 rfl ?_
  refine wx_iload_n dL_clear_3 rfl ?_
  refine wx_tryV dL_clear_4 wl_clear my_X11_clear iv_X11_clear (sc_0 hS) (by decide) (x_X11_clear (d := d - 1) hS (by omega) h) rfl (by omega) (by exact Nat.le_of_ble_eq_true rfl) (by omega) (by omega) ?_ (fun _ _ _ _ _ _ q => q.elim)
  rintro E sh' M' L' R' n' ⟨rfl, rfl, rfl, rfl, rfl, hn'⟩
  exact ⟨1, ⟨[], _, _, rfl, px_0e, by decide, by decide, by decide, cx_19, ca_ISE, (Or.inl ⟨3, 1, dL_clear_19, by decide, dL_clear_20, by decide, dL_clear_21⟩)⟩, rfl, rfl, rfl, rfl, rfl, hn'⟩
theorem w_clear_x2 {d : Nat} {X : Nat × (Nat → Int32)} {sh : px_Sh} {M : px_M} {L : px_L} {R : px_R} {n : Nat} {p1 : Int32} (hS : SR sh R) (hd : 8 ≤ d) (h : f_X11_clear M p1 = some (.inr 2)) : MXW yL_clear cL_clear 4 (some .int) [(0, 16, 19, 19), (0, 16, 22, 24), (0, 16, 25, 13)] d 1 6 X [.ref 0, .int p1, .ref 219] sh M L R n (px_wx 2 sh M L R n) := by
  refine MXW.of (by decide +kernel) (by exact Nat.le_of_ble_eq_true rfl) ?_
  refine wx_aload_n dL_clear_0 rfl ?_
  refine wx_iconst (v := 0) dL_clear_1 (by decide) ?_
  refine wx_aload_n dL_clear_2 rfl ?_
  refine wx_iload_n dL_clear_3 rfl ?_
  refine wx_tryV dL_clear_4 wl_clear my_X11_clear iv_X11_clear (sc_0 hS) (by decide) (x_X11_clear (d := d - 1) hS (by omega) h) rfl (by omega) (by exact Nat.le_of_ble_eq_true rfl) (by omega) (by omega) ?_ (fun _ _ _ _ _ _ q => q.elim)
  rintro E sh' M' L' R' n' ⟨rfl, rfl, rfl, rfl, rfl, hn'⟩
  exact ⟨2, ⟨[_], _, _, rfl, (fun z hz => by
      simp only [List.mem_cons, List.not_mem_nil, or_false] at hz
      rcases hz with rfl
      · exact ⟨by decide, "java/lang/IllegalStateException", by decide, by decide, cx_19⟩), by decide, by decide, by decide, cx_24, ca_IOOBE, (Or.inl ⟨3, 2, dL_clear_22, by decide, dL_clear_23, by decide, dL_clear_24⟩)⟩, rfl, rfl, rfl, rfl, rfl, hn'⟩
theorem w_clear_x0 {d : Nat} {X : Nat × (Nat → Int32)} {sh : px_Sh} {M : px_M} {L : px_L} {R : px_R} {n : Nat} {p1 : Int32} (hS : SR sh R) (hd : 8 ≤ d) (h : f_X11_clear M p1 = some (.inr 0)) : MXW yL_clear cL_clear 4 (some .int) [(0, 16, 19, 19), (0, 16, 22, 24), (0, 16, 25, 13)] d 1 6 X [.ref 0, .int p1, .ref 219] sh M L R n (px_wx 3 sh M L R n) := by
  refine MXW.of (by decide +kernel) (by exact Nat.le_of_ble_eq_true rfl) ?_
  refine wx_aload_n dL_clear_0 rfl ?_
  refine wx_iconst (v := 0) dL_clear_1 (by decide) ?_
  refine wx_aload_n dL_clear_2 rfl ?_
  refine wx_iload_n dL_clear_3 rfl ?_
  refine wx_tryV dL_clear_4 wl_clear my_X11_clear iv_X11_clear (sc_0 hS) (by decide) (x_X11_clear (d := d - 1) hS (by omega) h) rfl (by omega) (by exact Nat.le_of_ble_eq_true rfl) (by omega) (by omega) ?_ (fun _ _ _ _ _ _ q => q.elim)
  rintro E sh' M' L' R' n' ⟨rfl, rfl, rfl, rfl, rfl, hn'⟩
  exact ⟨3, ⟨[_, _], _, _, rfl, (fun z hz => by
      simp only [List.mem_cons, List.not_mem_nil, or_false] at hz
      rcases hz with rfl | rfl
      · exact ⟨by decide, "java/lang/IllegalStateException", by decide, by decide, cx_19⟩
      · exact ⟨by decide, "java/lang/IndexOutOfBoundsException", by decide, by decide, cx_24⟩), by decide, by decide, by decide, cx_13, ca_IAE, (Or.inl ⟨3, 3, dL_clear_25, by decide, dL_clear_26, by decide, dL_clear_27⟩)⟩, rfl, rfl, rfl, rfl, rfl, hn'⟩
theorem w_coat {d : Nat} {X : Nat × (Nat → Int32)} {sh : px_Sh} {M : px_M} {L : px_L} {R : px_R} {n : Nat} {p1 : Int32} {p2 : Int32} {e : Int32 × px_M} (hS : SR sh R) (hd : 8 ≤ d) (h : f_X11_coat M p1 p2 = some (.inl e)) : MXW yL_coat cL_coat 5 (some .int) [(0, 10, 13, 13)] d 0 0 X [.ref 0, .int p1, .int p2, .ref 219] sh M L R n (px_pu (some (.int 0)) sh e.2 (px_u L 219 0 (e.1 : Int32).toInt64) R n) := by
  refine MXW.of (by decide +kernel) (by exact Nat.le_of_ble_eq_true rfl) ?_
  refine wx_aload_n dL_coat_0 rfl ?_
  refine wx_iconst (v := 0) dL_coat_1 (by decide) ?_
  refine wx_aload_n dL_coat_2 rfl ?_
  refine wx_iload_n dL_coat_3 rfl ?_
  refine wx_iload_n dL_coat_4 rfl ?_
  refine wx_tryV dL_coat_5 wl_coat my_X11_coat iv_X11_coat (sc_0 hS) (by decide) (s_X11_coat (d := d - 1) hS (by omega) h) rfl (by omega) (by exact Nat.le_of_ble_eq_true rfl) (by omega) (by omega) (fun _ _ _ _ _ _ q => q.elim) ?_
  rintro v sh' M' L' R' n' ⟨rfl, rfl, rfl, rfl, rfl, rfl⟩
  refine wx_i2l dL_coat_8 ?_
  refine wx_lastk (k := 0) dL_coat_9 (sc_219 hS) rfl (by decide) (by decide) ?_
  refine wx_goto (tgt := 17) dL_coat_10 (by decide) ?_
  refine wx_iconst (v := 0) dL_coat_17 (by decide) ?_
  refine wx_iret dL_coat_18 (by omega) (by omega) ?_
  exact ⟨rfl, rfl, rfl, rfl, rfl, rfl⟩
theorem w_coat_x0 {d : Nat} {X : Nat × (Nat → Int32)} {sh : px_Sh} {M : px_M} {L : px_L} {R : px_R} {n : Nat} {p1 : Int32} {p2 : Int32} (hS : SR sh R) (hd : 8 ≤ d) (h : f_X11_coat M p1 p2 = some (.inr 0)) : MXW yL_coat cL_coat 5 (some .int) [(0, 10, 13, 13)] d 1 6 X [.ref 0, .int p1, .int p2, .ref 219] sh M L R n (px_wx 1 sh M L R n) := by
  refine MXW.of (by decide +kernel) (by exact Nat.le_of_ble_eq_true rfl) ?_
  refine wx_aload_n dL_coat_0 rfl ?_
  refine wx_iconst (v := 0) dL_coat_1 (by decide) ?_
  refine wx_aload_n dL_coat_2 rfl ?_
  refine wx_iload_n dL_coat_3 rfl ?_
  refine wx_iload_n dL_coat_4 rfl ?_
  refine wx_tryV dL_coat_5 wl_coat my_X11_coat iv_X11_coat (sc_0 hS) (by decide) (x_X11_coat (d := d - 1) hS (by omega) h) rfl (by omega) (by exact Nat.le_of_ble_eq_true rfl) (by omega) (by omega) ?_ (fun _ _ _ _ _ _ q => q.elim)
  rintro E sh' M' L' R' n' ⟨rfl, rfl, rfl, rfl, rfl, hn'⟩
  exact ⟨1, ⟨[], _, _, rfl, px_0e, by decide, by decide, by decide, cx_13, ca_IAE, (Or.inr ⟨4, 1, dL_coat_13, by decide, dL_coat_15, by decide, dL_coat_16⟩)⟩, rfl, rfl, rfl, rfl, rfl, hn'⟩
theorem w_dust {d : Nat} {X : Nat × (Nat → Int32)} {sh : px_Sh} {M : px_M} {L : px_L} {R : px_R} {n : Nat} {p1 : Int32} {p2 : Int32} {e : Int32 × px_M} (hS : SR sh R) (hd : 8 ≤ d) (h : f_X11_dust M p1 p2 = some (.inl e)) : MXW yL_dust cL_dust 5 (some .int) [(0, 10, 13, 44), (0, 10, 17, 13)] d 0 0 X [.ref 0, .int p1, .int p2, .ref 219] sh M L R n (px_pu (some (.int 0)) sh e.2 (px_u L 219 0 (e.1 : Int32).toInt64) R n) := by
  refine MXW.of (by decide +kernel) (by exact Nat.le_of_ble_eq_true rfl) ?_
  refine wx_aload_n dL_dust_0 rfl ?_
  refine wx_iconst (v := 0) dL_dust_1 (by decide) ?_
  refine wx_aload_n dL_dust_2 rfl ?_
  refine wx_iload_n dL_dust_3 rfl ?_
  refine wx_iload_n dL_dust_4 rfl ?_
  refine wx_tryV dL_dust_5 wl_dust my_X11_dust iv_X11_dust (sc_0 hS) (by decide) (s_X11_dust (d := d - 1) hS (by omega) h) rfl (by omega) (by exact Nat.le_of_ble_eq_true rfl) (by omega) (by omega) (fun _ _ _ _ _ _ q => q.elim) ?_
  rintro v sh' M' L' R' n' ⟨rfl, rfl, rfl, rfl, rfl, rfl⟩
  refine wx_i2l dL_dust_8 ?_
  refine wx_lastk (k := 0) dL_dust_9 (sc_219 hS) rfl (by decide) (by decide) ?_
  refine wx_goto (tgt := 21) dL_dust_10 (by decide) ?_
  refine wx_iconst (v := 0) dL_dust_21 (by decide) ?_
  refine wx_iret dL_dust_22 (by omega) (by omega) ?_
  exact ⟨rfl, rfl, rfl, rfl, rfl, rfl⟩
theorem w_dust_x3 {d : Nat} {X : Nat × (Nat → Int32)} {sh : px_Sh} {M : px_M} {L : px_L} {R : px_R} {n : Nat} {p1 : Int32} {p2 : Int32} (hS : SR sh R) (hd : 8 ≤ d) (h : f_X11_dust M p1 p2 = some (.inr 3)) : MXW yL_dust cL_dust 5 (some .int) [(0, 10, 13, 44), (0, 10, 17, 13)] d 1 6 X [.ref 0, .int p1, .int p2, .ref 219] sh M L R n (px_wx 1 sh M L R n) := by
  refine MXW.of (by decide +kernel) (by exact Nat.le_of_ble_eq_true rfl) ?_
  refine wx_aload_n dL_dust_0 rfl ?_
  refine wx_iconst (v := 0) dL_dust_1 (by decide) ?_
  refine wx_aload_n dL_dust_2 rfl ?_
  refine wx_iload_n dL_dust_3 rfl ?_
  refine wx_iload_n dL_dust_4 rfl ?_
  refine wx_tryV dL_dust_5 wl_dust my_X11_dust iv_X11_dust (sc_0 hS) (by decide) (x_X11_dust (d := d - 1) hS (by omega) h) rfl (by omega) (by exact Nat.le_of_ble_eq_true rfl) (by omega) (by omega) ?_ (fun _ _ _ _ _ _ q => q.elim)
  rintro E sh' M' L' R' n' ⟨rfl, rfl, rfl, rfl, rfl, hn'⟩
  exact ⟨1, ⟨[], _, _, rfl, px_0e, by decide, by decide, by decide, cx_44, ca_NSEE, (Or.inr ⟨4, 1, dL_dust_13, by decide, dL_dust_15, by decide, dL_dust_16⟩)⟩, rfl, rfl, rfl, rfl, rfl, hn'⟩
theorem w_dust_x0 {d : Nat} {X : Nat × (Nat → Int32)} {sh : px_Sh} {M : px_M} {L : px_L} {R : px_R} {n : Nat} {p1 : Int32} {p2 : Int32} (hS : SR sh R) (hd : 8 ≤ d) (h : f_X11_dust M p1 p2 = some (.inr 0)) : MXW yL_dust cL_dust 5 (some .int) [(0, 10, 13, 44), (0, 10, 17, 13)] d 1 6 X [.ref 0, .int p1, .int p2, .ref 219] sh M L R n (px_wx 2 sh M L R n) := by
  refine MXW.of (by decide +kernel) (by exact Nat.le_of_ble_eq_true rfl) ?_
  refine wx_aload_n dL_dust_0 rfl ?_
  refine wx_iconst (v := 0) dL_dust_1 (by decide) ?_
  refine wx_aload_n dL_dust_2 rfl ?_
  refine wx_iload_n dL_dust_3 rfl ?_
  refine wx_iload_n dL_dust_4 rfl ?_
  refine wx_tryV dL_dust_5 wl_dust my_X11_dust iv_X11_dust (sc_0 hS) (by decide) (x_X11_dust (d := d - 1) hS (by omega) h) rfl (by omega) (by exact Nat.le_of_ble_eq_true rfl) (by omega) (by omega) ?_ (fun _ _ _ _ _ _ q => q.elim)
  rintro E sh' M' L' R' n' ⟨rfl, rfl, rfl, rfl, rfl, hn'⟩
  exact ⟨2, ⟨[_], _, _, rfl, (fun z hz => by
      simp only [List.mem_cons, List.not_mem_nil, or_false] at hz
      rcases hz with rfl
      · exact ⟨by decide, "java/util/NoSuchElementException", by decide, by decide, cx_44⟩), by decide, by decide, by decide, cx_13, ca_IAE, (Or.inr ⟨4, 2, dL_dust_17, by decide, dL_dust_19, by decide, dL_dust_20⟩)⟩, rfl, rfl, rfl, rfl, rfl, hn'⟩
theorem w_ease {d : Nat} {X : Nat × (Nat → Int32)} {sh : px_Sh} {M : px_M} {L : px_L} {R : px_R} {n : Nat} {p1 : Int32} {e : Int64 × px_M × px_L × px_R} (hS : SR sh R) (hd : 8 ≤ d) (h : f_X11_ease sh M L R p1 = some (.inl e)) : MXW yL_ease cL_ease 4 (some .int) [(0, 8, 11, 13)] d 0 0 X [.ref 0, .int p1, .ref 219] sh M L R n (px_ps (some (.int 0)) sh e.2.1 (px_u e.2.2.1 219 0 e.1) e.2.2.2 n) := by
  refine MXW.of (by decide +kernel) (by exact Nat.le_of_ble_eq_true rfl) ?_
  refine wx_aload_n dL_ease_0 rfl ?_
  refine wx_iconst (v := 0) dL_ease_1 (by decide) ?_
  refine wx_aload_n dL_ease_2 rfl ?_
  refine wx_iload_n dL_ease_3 rfl ?_
  refine wx_tryV dL_ease_4 wl_ease my_X11_ease iv_X11_ease (sc_0 hS) (by decide) (s_X11_ease (d := d - 1) hS (by omega) h) rfl (by omega) (by exact Nat.le_of_ble_eq_true rfl) (by omega) (by omega) (fun _ _ _ _ _ _ q => q.elim) ?_
  rintro v sh' M' L' R' n' ⟨⟨rfl, rfl, rfl, rfl, rfl, rfl⟩, hS⟩
  refine wx_lastk (k := 0) dL_ease_7 (sc_219 hS) rfl (by decide) (by decide) ?_
  refine wx_goto (tgt := 14) dL_ease_8 (by decide) ?_
  refine wx_iconst (v := 0) dL_ease_14 (by decide) ?_
  refine wx_iret dL_ease_15 (by omega) (by omega) ?_
  exact ⟨⟨rfl, rfl, rfl, rfl, rfl, rfl⟩, hS⟩
theorem w_ease_x0 {d : Nat} {X : Nat × (Nat → Int32)} {sh : px_Sh} {M : px_M} {L : px_L} {R : px_R} {n : Nat} {p1 : Int32} (hS : SR sh R) (hd : 8 ≤ d) (h : f_X11_ease sh M L R p1 = some (.inr 0)) : MXW yL_ease cL_ease 4 (some .int) [(0, 8, 11, 13)] d 1 6 X [.ref 0, .int p1, .ref 219] sh M L R n (px_wx 1 sh M L R n) := by
  refine MXW.of (by decide +kernel) (by exact Nat.le_of_ble_eq_true rfl) ?_
  refine wx_aload_n dL_ease_0 rfl ?_
  refine wx_iconst (v := 0) dL_ease_1 (by decide) ?_
  refine wx_aload_n dL_ease_2 rfl ?_
  refine wx_iload_n dL_ease_3 rfl ?_
  refine wx_tryV dL_ease_4 wl_ease my_X11_ease iv_X11_ease (sc_0 hS) (by decide) (x_X11_ease (d := d - 1) hS (by omega) h) rfl (by omega) (by exact Nat.le_of_ble_eq_true rfl) (by omega) (by omega) ?_ (fun _ _ _ _ _ _ q => q.elim)
  rintro E sh' M' L' R' n' ⟨rfl, rfl, rfl, rfl, rfl, hn'⟩
  exact ⟨1, ⟨[], _, _, rfl, px_0e, by decide, by decide, by decide, cx_13, ca_IAE, (Or.inl ⟨3, 1, dL_ease_11, by decide, dL_ease_12, by decide, dL_ease_13⟩)⟩, rfl, rfl, rfl, rfl, rfl, hn'⟩
theorem w_fit {d : Nat} {X : Nat × (Nat → Int32)} {sh : px_Sh} {M : px_M} {L : px_L} {R : px_R} {n : Nat} {p1 : Int32} {p2 : Int32} {e : Int32 × px_M} (hS : SR sh R) (hd : 8 ≤ d) (h : f_X11_fit sh M R p1 p2 = some (.inl e)) : MXW yL_fit cL_fit 5 (some .int) [(0, 10, 13, 13)] d 0 0 X [.ref 0, .int p1, .int p2, .ref 219] sh M L R n (px_pu (some (.int 0)) sh e.2 (px_u L 219 0 (e.1 : Int32).toInt64) R n) := by
  refine MXW.of (by decide +kernel) (by exact Nat.le_of_ble_eq_true rfl) ?_
  refine wx_aload_n dL_fit_0 rfl ?_
  refine wx_iconst (v := 0) dL_fit_1 (by decide) ?_
  refine wx_aload_n dL_fit_2 rfl ?_
  refine wx_iload_n dL_fit_3 rfl ?_
  refine wx_iload_n dL_fit_4 rfl ?_
  refine wx_tryV dL_fit_5 wl_fit my_X11_fit iv_X11_fit (sc_0 hS) (by decide) (s_X11_fit (d := d - 1) hS (by omega) h) rfl (by omega) (by exact Nat.le_of_ble_eq_true rfl) (by omega) (by omega) (fun _ _ _ _ _ _ q => q.elim) ?_
  rintro v sh' M' L' R' n' ⟨rfl, rfl, rfl, rfl, rfl, rfl⟩
  refine wx_i2l dL_fit_8 ?_
  refine wx_lastk (k := 0) dL_fit_9 (sc_219 hS) rfl (by decide) (by decide) ?_
  refine wx_goto (tgt := 17) dL_fit_10 (by decide) ?_
  refine wx_iconst (v := 0) dL_fit_17 (by decide) ?_
  refine wx_iret dL_fit_18 (by omega) (by omega) ?_
  exact ⟨rfl, rfl, rfl, rfl, rfl, rfl⟩
theorem w_fit_x0 {d : Nat} {X : Nat × (Nat → Int32)} {sh : px_Sh} {M : px_M} {L : px_L} {R : px_R} {n : Nat} {p1 : Int32} {p2 : Int32} (hS : SR sh R) (hd : 8 ≤ d) (h : f_X11_fit sh M R p1 p2 = some (.inr 0)) : MXW yL_fit cL_fit 5 (some .int) [(0, 10, 13, 13)] d 1 6 X [.ref 0, .int p1, .int p2, .ref 219] sh M L R n (px_wx 1 sh M L R n) := by
  refine MXW.of (by decide +kernel) (by exact Nat.le_of_ble_eq_true rfl) ?_
  refine wx_aload_n dL_fit_0 rfl ?_
  refine wx_iconst (v := 0) dL_fit_1 (by decide) ?_
  refine wx_aload_n dL_fit_2 rfl ?_
  refine wx_iload_n dL_fit_3 rfl ?_
  refine wx_iload_n dL_fit_4 rfl ?_
  refine wx_tryV dL_fit_5 wl_fit my_X11_fit iv_X11_fit (sc_0 hS) (by decide) (x_X11_fit (d := d - 1) hS (by omega) h) rfl (by omega) (by exact Nat.le_of_ble_eq_true rfl) (by omega) (by omega) ?_ (fun _ _ _ _ _ _ q => q.elim)
  rintro E sh' M' L' R' n' ⟨rfl, rfl, rfl, rfl, rfl, hn'⟩
  exact ⟨1, ⟨[], _, _, rfl, px_0e, by decide, by decide, by decide, cx_13, ca_IAE, (Or.inr ⟨4, 1, dL_fit_13, by decide, dL_fit_15, by decide, dL_fit_16⟩)⟩, rfl, rfl, rfl, rfl, rfl, hn'⟩
theorem w_fits {d : Nat} {X : Nat × (Nat → Int32)} {sh : px_Sh} {M : px_M} {L : px_L} {R : px_R} {n : Nat} {p1 : Int32} {e : Int32 × px_M} (hS : SR sh R) (hd : 8 ≤ d) (h : f_X11_fits sh M R p1 = some (.inl e)) : MXW yL_fits cL_fits 4 (some .int) [(0, 9, 12, 13)] d 0 0 X [.ref 0, .int p1, .ref 219] sh M L R n (px_pu (some (.int 0)) sh e.2 (px_u L 219 0 (e.1 : Int32).toInt64) R n) := by
  refine MXW.of (by decide +kernel) (by exact Nat.le_of_ble_eq_true rfl) ?_
  refine wx_aload_n dL_fits_0 rfl ?_
  refine wx_iconst (v := 0) dL_fits_1 (by decide) ?_
  refine wx_aload_n dL_fits_2 rfl ?_
  refine wx_iload_n dL_fits_3 rfl ?_
  refine wx_tryV dL_fits_4 wl_fits my_X11_fits iv_X11_fits (sc_0 hS) (by decide) (s_X11_fits (d := d - 1) hS (by omega) h) rfl (by omega) (by exact Nat.le_of_ble_eq_true rfl) (by omega) (by omega) (fun _ _ _ _ _ _ q => q.elim) ?_
  rintro v sh' M' L' R' n' ⟨rfl, rfl, rfl, rfl, rfl, rfl⟩
  refine wx_i2l dL_fits_7 ?_
  refine wx_lastk (k := 0) dL_fits_8 (sc_219 hS) rfl (by decide) (by decide) ?_
  refine wx_goto (tgt := 15) dL_fits_9 (by decide) ?_
  refine wx_iconst (v := 0) dL_fits_15 (by decide) ?_
  refine wx_iret dL_fits_16 (by omega) (by omega) ?_
  exact ⟨rfl, rfl, rfl, rfl, rfl, rfl⟩
theorem w_fits_x0 {d : Nat} {X : Nat × (Nat → Int32)} {sh : px_Sh} {M : px_M} {L : px_L} {R : px_R} {n : Nat} {p1 : Int32} (hS : SR sh R) (hd : 8 ≤ d) (h : f_X11_fits sh M R p1 = some (.inr 0)) : MXW yL_fits cL_fits 4 (some .int) [(0, 9, 12, 13)] d 1 6 X [.ref 0, .int p1, .ref 219] sh M L R n (px_wx 1 sh M L R n) := by
  refine MXW.of (by decide +kernel) (by exact Nat.le_of_ble_eq_true rfl) ?_
  refine wx_aload_n dL_fits_0 rfl ?_
  refine wx_iconst (v := 0) dL_fits_1 (by decide) ?_
  refine wx_aload_n dL_fits_2 rfl ?_
  refine wx_iload_n dL_fits_3 rfl ?_
  refine wx_tryV dL_fits_4 wl_fits my_X11_fits iv_X11_fits (sc_0 hS) (by decide) (x_X11_fits (d := d - 1) hS (by omega) h) rfl (by omega) (by exact Nat.le_of_ble_eq_true rfl) (by omega) (by omega) ?_ (fun _ _ _ _ _ _ q => q.elim)
  rintro E sh' M' L' R' n' ⟨rfl, rfl, rfl, rfl, rfl, hn'⟩
  exact ⟨1, ⟨[], _, _, rfl, px_0e, by decide, by decide, by decide, cx_13, ca_IAE, (Or.inl ⟨3, 1, dL_fits_12, by decide, dL_fits_13, by decide, dL_fits_14⟩)⟩, rfl, rfl, rfl, rfl, rfl, hn'⟩
theorem w_flap {d : Nat} {X : Nat × (Nat → Int32)} {sh : px_Sh} {M : px_M} {L : px_L} {R : px_R} {n : Nat} {p1 : Int32} {e : Int32 × px_M × px_R} (hS : SR sh R) (hd : 8 ≤ d) (h : f_X11_flap sh M R p1 = some (.inl e)) : MXW yL_flap cL_flap 4 (some .int) [(0, 9, 12, 44)] d 0 0 X [.ref 0, .int p1, .ref 219] sh M L R n (px_ps (some (.int 0)) sh e.2.1 (px_u L 219 0 (e.1 : Int32).toInt64) e.2.2 n) := by
  refine MXW.of (by decide +kernel) (by exact Nat.le_of_ble_eq_true rfl) ?_
  refine wx_aload_n dL_flap_0 rfl ?_
  refine wx_iconst (v := 0) dL_flap_1 (by decide) ?_
  refine wx_aload_n dL_flap_2 rfl ?_
  refine wx_iload_n dL_flap_3 rfl ?_
  refine wx_tryV dL_flap_4 wl_flap my_X11_flap iv_X11_flap (sc_0 hS) (by decide) (s_X11_flap (d := d - 1) hS (by omega) h) rfl (by omega) (by exact Nat.le_of_ble_eq_true rfl) (by omega) (by omega) (fun _ _ _ _ _ _ q => q.elim) ?_
  rintro v sh' M' L' R' n' ⟨⟨rfl, rfl, rfl, rfl, rfl, rfl⟩, hS⟩
  refine wx_i2l dL_flap_7 ?_
  refine wx_lastk (k := 0) dL_flap_8 (sc_219 hS) rfl (by decide) (by decide) ?_
  refine wx_goto (tgt := 15) dL_flap_9 (by decide) ?_
  refine wx_iconst (v := 0) dL_flap_15 (by decide) ?_
  refine wx_iret dL_flap_16 (by omega) (by omega) ?_
  exact ⟨⟨rfl, rfl, rfl, rfl, rfl, rfl⟩, hS⟩
theorem w_flap_x3 {d : Nat} {X : Nat × (Nat → Int32)} {sh : px_Sh} {M : px_M} {L : px_L} {R : px_R} {n : Nat} {p1 : Int32} (hS : SR sh R) (hd : 8 ≤ d) (h : f_X11_flap sh M R p1 = some (.inr 3)) : MXW yL_flap cL_flap 4 (some .int) [(0, 9, 12, 44)] d 1 6 X [.ref 0, .int p1, .ref 219] sh M L R n (px_wx 1 sh M L R n) := by
  refine MXW.of (by decide +kernel) (by exact Nat.le_of_ble_eq_true rfl) ?_
  refine wx_aload_n dL_flap_0 rfl ?_
  refine wx_iconst (v := 0) dL_flap_1 (by decide) ?_
  refine wx_aload_n dL_flap_2 rfl ?_
  refine wx_iload_n dL_flap_3 rfl ?_
  refine wx_tryV dL_flap_4 wl_flap my_X11_flap iv_X11_flap (sc_0 hS) (by decide) (x_X11_flap (d := d - 1) hS (by omega) h) rfl (by omega) (by exact Nat.le_of_ble_eq_true rfl) (by omega) (by omega) ?_ (fun _ _ _ _ _ _ q => q.elim)
  rintro E sh' M' L' R' n' ⟨rfl, rfl, rfl, rfl, rfl, hn'⟩
  exact ⟨1, ⟨[], _, _, rfl, px_0e, by decide, by decide, by decide, cx_44, ca_NSEE, (Or.inl ⟨3, 1, dL_flap_12, by decide, dL_flap_13, by decide, dL_flap_14⟩)⟩, rfl, rfl, rfl, rfl, rfl, hn'⟩
theorem w_fly {d : Nat} {X : Nat × (Nat → Int32)} {sh : px_Sh} {M : px_M} {L : px_L} {R : px_R} {n : Nat} {p1 : Int32} {e : Int32 × px_M} (hS : SR sh R) (hd : 8 ≤ d) (h : f_X11_fly sh M R p1 = some (.inl e)) : MXW yL_fly cL_fly 4 (some .int) [(0, 9, 12, 13), (0, 9, 15, 19)] d 0 0 X [.ref 0, .int p1, .ref 219] sh M L R n (px_pu (some (.int 0)) sh e.2 (px_u L 219 0 (e.1 : Int32).toInt64) R n) := by
  refine MXW.of (by decide +kernel) (by exact Nat.le_of_ble_eq_true rfl) ?_
  refine wx_aload_n dL_fly_0 rfl ?_
  refine wx_iconst (v := 0) dL_fly_1 (by decide) ?_
  refine wx_aload_n dL_fly_2 rfl ?_
  refine wx_iload_n dL_fly_3 rfl ?_
  refine wx_tryV dL_fly_4 wl_fly my_X11_fly iv_X11_fly (sc_0 hS) (by decide) (s_X11_fly (d := d - 1) hS (by omega) h) rfl (by omega) (by exact Nat.le_of_ble_eq_true rfl) (by omega) (by omega) (fun _ _ _ _ _ _ q => q.elim) ?_
  rintro v sh' M' L' R' n' ⟨rfl, rfl, rfl, rfl, rfl, rfl⟩
  refine wx_i2l dL_fly_7 ?_
  refine wx_lastk (k := 0) dL_fly_8 (sc_219 hS) rfl (by decide) (by decide) ?_
  refine wx_goto (tgt := 18) dL_fly_9 (by decide) ?_
  refine wx_iconst (v := 0) dL_fly_18 (by decide) ?_
  refine wx_iret dL_fly_19 (by omega) (by omega) ?_
  exact ⟨rfl, rfl, rfl, rfl, rfl, rfl⟩
theorem w_fly_x0 {d : Nat} {X : Nat × (Nat → Int32)} {sh : px_Sh} {M : px_M} {L : px_L} {R : px_R} {n : Nat} {p1 : Int32} (hS : SR sh R) (hd : 8 ≤ d) (h : f_X11_fly sh M R p1 = some (.inr 0)) : MXW yL_fly cL_fly 4 (some .int) [(0, 9, 12, 13), (0, 9, 15, 19)] d 1 6 X [.ref 0, .int p1, .ref 219] sh M L R n (px_wx 1 sh M L R n) := by
  refine MXW.of (by decide +kernel) (by exact Nat.le_of_ble_eq_true rfl) ?_
  refine wx_aload_n dL_fly_0 rfl ?_
  refine wx_iconst (v := 0) dL_fly_1 (by decide) ?_
  refine wx_aload_n dL_fly_2 rfl ?_
  refine wx_iload_n dL_fly_3 rfl ?_
  refine wx_tryV dL_fly_4 wl_fly my_X11_fly iv_X11_fly (sc_0 hS) (by decide) (x_X11_fly (d := d - 1) hS (by omega) h) rfl (by omega) (by exact Nat.le_of_ble_eq_true rfl) (by omega) (by omega) ?_ (fun _ _ _ _ _ _ q => q.elim)
  rintro E sh' M' L' R' n' ⟨rfl, rfl, rfl, rfl, rfl, hn'⟩
  exact ⟨1, ⟨[], _, _, rfl, px_0e, by decide, by decide, by decide, cx_13, ca_IAE, (Or.inl ⟨3, 1, dL_fly_12, by decide, dL_fly_13, by decide, dL_fly_14⟩)⟩, rfl, rfl, rfl, rfl, rfl, hn'⟩
theorem w_fly_x1 {d : Nat} {X : Nat × (Nat → Int32)} {sh : px_Sh} {M : px_M} {L : px_L} {R : px_R} {n : Nat} {p1 : Int32} (hS : SR sh R) (hd : 8 ≤ d) (h : f_X11_fly sh M R p1 = some (.inr 1)) : MXW yL_fly cL_fly 4 (some .int) [(0, 9, 12, 13), (0, 9, 15, 19)] d 1 6 X [.ref 0, .int p1, .ref 219] sh M L R n (px_wx 2 sh M L R n) := by
  refine MXW.of (by decide +kernel) (by exact Nat.le_of_ble_eq_true rfl) ?_
  refine wx_aload_n dL_fly_0 rfl ?_
  refine wx_iconst (v := 0) dL_fly_1 (by decide) ?_
  refine wx_aload_n dL_fly_2 rfl ?_
  refine wx_iload_n dL_fly_3 rfl ?_
  refine wx_tryV dL_fly_4 wl_fly my_X11_fly iv_X11_fly (sc_0 hS) (by decide) (x_X11_fly (d := d - 1) hS (by omega) h) rfl (by omega) (by exact Nat.le_of_ble_eq_true rfl) (by omega) (by omega) ?_ (fun _ _ _ _ _ _ q => q.elim)
  rintro E sh' M' L' R' n' ⟨rfl, rfl, rfl, rfl, rfl, hn'⟩
  exact ⟨2, ⟨[_], _, _, rfl, (fun z hz => by
      simp only [List.mem_cons, List.not_mem_nil, or_false] at hz
      rcases hz with rfl
      · exact ⟨by decide, "java/lang/IllegalArgumentException", by decide, by decide, cx_13⟩), by decide, by decide, by decide, cx_19, ca_ISE, (Or.inl ⟨3, 2, dL_fly_15, by decide, dL_fly_16, by decide, dL_fly_17⟩)⟩, rfl, rfl, rfl, rfl, rfl, hn'⟩
theorem w_goal {d : Nat} {X : Nat × (Nat → Int32)} {sh : px_Sh} {M : px_M} {L : px_L} {R : px_R} {n : Nat} {p1 : Int32} {e : Int32 × px_M} (hS : SR sh R) (hd : 8 ≤ d) (h : f_X11_goal M p1 = some (.inl e)) : MXW yL_goal cL_goal 4 (some .int) [(0, 9, 12, 24)] d 0 0 X [.ref 0, .int p1, .ref 219] sh M L R n (px_pu (some (.int 0)) sh e.2 (px_u L 219 0 (e.1 : Int32).toInt64) R n) := by
  refine MXW.of (by decide +kernel) (by exact Nat.le_of_ble_eq_true rfl) ?_
  refine wx_aload_n dL_goal_0 rfl ?_
  refine wx_iconst (v := 0) dL_goal_1 (by decide) ?_
  refine wx_aload_n dL_goal_2 rfl ?_
  refine wx_iload_n dL_goal_3 rfl ?_
  refine wx_tryV dL_goal_4 wl_goal my_X11_goal iv_X11_goal (sc_0 hS) (by decide) (s_X11_goal (d := d - 1) hS (by omega) h) rfl (by omega) (by exact Nat.le_of_ble_eq_true rfl) (by omega) (by omega) (fun _ _ _ _ _ _ q => q.elim) ?_
  rintro v sh' M' L' R' n' ⟨rfl, rfl, rfl, rfl, rfl, rfl⟩
  refine wx_i2l dL_goal_7 ?_
  refine wx_lastk (k := 0) dL_goal_8 (sc_219 hS) rfl (by decide) (by decide) ?_
  refine wx_goto (tgt := 15) dL_goal_9 (by decide) ?_
  refine wx_iconst (v := 0) dL_goal_15 (by decide) ?_
  refine wx_iret dL_goal_16 (by omega) (by omega) ?_
  exact ⟨rfl, rfl, rfl, rfl, rfl, rfl⟩
theorem w_goal_x2 {d : Nat} {X : Nat × (Nat → Int32)} {sh : px_Sh} {M : px_M} {L : px_L} {R : px_R} {n : Nat} {p1 : Int32} (hS : SR sh R) (hd : 8 ≤ d) (h : f_X11_goal M p1 = some (.inr 2)) : MXW yL_goal cL_goal 4 (some .int) [(0, 9, 12, 24)] d 1 6 X [.ref 0, .int p1, .ref 219] sh M L R n (px_wx 1 sh M L R n) := by
  refine MXW.of (by decide +kernel) (by exact Nat.le_of_ble_eq_true rfl) ?_
  refine wx_aload_n dL_goal_0 rfl ?_
  refine wx_iconst (v := 0) dL_goal_1 (by decide) ?_
  refine wx_aload_n dL_goal_2 rfl ?_
  refine wx_iload_n dL_goal_3 rfl ?_
  refine wx_tryV dL_goal_4 wl_goal my_X11_goal iv_X11_goal (sc_0 hS) (by decide) (x_X11_goal (d := d - 1) hS (by omega) h) rfl (by omega) (by exact Nat.le_of_ble_eq_true rfl) (by omega) (by omega) ?_ (fun _ _ _ _ _ _ q => q.elim)
  rintro E sh' M' L' R' n' ⟨rfl, rfl, rfl, rfl, rfl, hn'⟩
  exact ⟨1, ⟨[], _, _, rfl, px_0e, by decide, by decide, by decide, cx_24, ca_IOOBE, (Or.inl ⟨3, 1, dL_goal_12, by decide, dL_goal_13, by decide, dL_goal_14⟩)⟩, rfl, rfl, rfl, rfl, rfl, hn'⟩
theorem w_knot {d : Nat} {X : Nat × (Nat → Int32)} {sh : px_Sh} {M : px_M} {L : px_L} {R : px_R} {n : Nat} {p1 : Int32} {p2 : Int32} {p3 : Int32} {e : Int32 × px_M} (hS : SR sh R) (hd : 8 ≤ d) (h : f_X11_knot M p1 p2 p3 = some (.inl e)) : MXW yL_knot cL_knot 6 (some .int) [(0, 12, 15, 13)] d 0 0 X [.ref 0, .int p1, .int p2, .int p3, .ref 219] sh M L R n (px_pu (some (.int 0)) sh e.2 (px_u L 219 0 (e.1 : Int32).toInt64) R n) := by
  refine MXW.of (by decide +kernel) (by exact Nat.le_of_ble_eq_true rfl) ?_
  refine wx_aload dL_knot_0 rfl ?_
  refine wx_iconst (v := 0) dL_knot_2 (by decide) ?_
  refine wx_aload_n dL_knot_3 rfl ?_
  refine wx_iload_n dL_knot_4 rfl ?_
  refine wx_iload_n dL_knot_5 rfl ?_
  refine wx_iload_n dL_knot_6 rfl ?_
  refine wx_tryV dL_knot_7 wl_knot my_X11_knot iv_X11_knot (sc_0 hS) (by decide) (s_X11_knot (d := d - 1) hS (by omega) h) rfl (by omega) (by exact Nat.le_of_ble_eq_true rfl) (by omega) (by omega) (fun _ _ _ _ _ _ q => q.elim) ?_
  rintro v sh' M' L' R' n' ⟨rfl, rfl, rfl, rfl, rfl, rfl⟩
  refine wx_i2l dL_knot_10 ?_
  refine wx_lastk (k := 0) dL_knot_11 (sc_219 hS) rfl (by decide) (by decide) ?_
  refine wx_goto (tgt := 19) dL_knot_12 (by decide) ?_
  refine wx_iconst (v := 0) dL_knot_19 (by decide) ?_
  refine wx_iret dL_knot_20 (by omega) (by omega) ?_
  exact ⟨rfl, rfl, rfl, rfl, rfl, rfl⟩
theorem w_knot_x0 {d : Nat} {X : Nat × (Nat → Int32)} {sh : px_Sh} {M : px_M} {L : px_L} {R : px_R} {n : Nat} {p1 : Int32} {p2 : Int32} {p3 : Int32} (hS : SR sh R) (hd : 8 ≤ d) (h : f_X11_knot M p1 p2 p3 = some (.inr 0)) : MXW yL_knot cL_knot 6 (some .int) [(0, 12, 15, 13)] d 1 6 X [.ref 0, .int p1, .int p2, .int p3, .ref 219] sh M L R n (px_wx 1 sh M L R n) := by
  refine MXW.of (by decide +kernel) (by exact Nat.le_of_ble_eq_true rfl) ?_
  refine wx_aload dL_knot_0 rfl ?_
  refine wx_iconst (v := 0) dL_knot_2 (by decide) ?_
  refine wx_aload_n dL_knot_3 rfl ?_
  refine wx_iload_n dL_knot_4 rfl ?_
  refine wx_iload_n dL_knot_5 rfl ?_
  refine wx_iload_n dL_knot_6 rfl ?_
  refine wx_tryV dL_knot_7 wl_knot my_X11_knot iv_X11_knot (sc_0 hS) (by decide) (x_X11_knot (d := d - 1) hS (by omega) h) rfl (by omega) (by exact Nat.le_of_ble_eq_true rfl) (by omega) (by omega) ?_ (fun _ _ _ _ _ _ q => q.elim)
  rintro E sh' M' L' R' n' ⟨rfl, rfl, rfl, rfl, rfl, hn'⟩
  exact ⟨1, ⟨[], _, _, rfl, px_0e, by decide, by decide, by decide, cx_13, ca_IAE, (Or.inr ⟨5, 1, dL_knot_15, by decide, dL_knot_17, by decide, dL_knot_18⟩)⟩, rfl, rfl, rfl, rfl, rfl, hn'⟩
theorem w_late {d : Nat} {X : Nat × (Nat → Int32)} {sh : px_Sh} {M : px_M} {L : px_L} {R : px_R} {n : Nat} {p1 : Int32} {p2 : Int32} {e : Int32 × px_M × px_L} (hS : SR sh R) (hd : 8 ≤ d) (h : f_X11_late sh M L R p1 p2 = some (.inl e)) : MXW yL_late cL_late 5 (some .int) [(0, 10, 13, 24), (0, 10, 17, 13)] d 0 0 X [.ref 0, .int p1, .int p2, .ref 219] sh M L R n (px_pu (some (.int 0)) sh e.2.1 (px_u e.2.2 219 0 (e.1 : Int32).toInt64) R n) := by
  refine MXW.of (by decide +kernel) (by exact Nat.le_of_ble_eq_true rfl) ?_
  refine wx_aload_n dL_late_0 rfl ?_
  refine wx_iconst (v := 0) dL_late_1 (by decide) ?_
  refine wx_aload_n dL_late_2 rfl ?_
  refine wx_iload_n dL_late_3 rfl ?_
  refine wx_iload_n dL_late_4 rfl ?_
  refine wx_tryV dL_late_5 wl_late my_X11_late iv_X11_late (sc_0 hS) (by decide) (s_X11_late (d := d - 1) hS (by omega) h) rfl (by omega) (by exact Nat.le_of_ble_eq_true rfl) (by omega) (by omega) (fun _ _ _ _ _ _ q => q.elim) ?_
  rintro v sh' M' L' R' n' ⟨rfl, rfl, rfl, rfl, rfl, rfl⟩
  refine wx_i2l dL_late_8 ?_
  refine wx_lastk (k := 0) dL_late_9 (sc_219 hS) rfl (by decide) (by decide) ?_
  refine wx_goto (tgt := 21) dL_late_10 (by decide) ?_
  refine wx_iconst (v := 0) dL_late_21 (by decide) ?_
  refine wx_iret dL_late_22 (by omega) (by omega) ?_
  exact ⟨rfl, rfl, rfl, rfl, rfl, rfl⟩
theorem w_late_x2 {d : Nat} {X : Nat × (Nat → Int32)} {sh : px_Sh} {M : px_M} {L : px_L} {R : px_R} {n : Nat} {p1 : Int32} {p2 : Int32} (hS : SR sh R) (hd : 8 ≤ d) (h : f_X11_late sh M L R p1 p2 = some (.inr 2)) : MXW yL_late cL_late 5 (some .int) [(0, 10, 13, 24), (0, 10, 17, 13)] d 1 6 X [.ref 0, .int p1, .int p2, .ref 219] sh M L R n (px_wx 1 sh M L R n) := by
  refine MXW.of (by decide +kernel) (by exact Nat.le_of_ble_eq_true rfl) ?_
  refine wx_aload_n dL_late_0 rfl ?_
  refine wx_iconst (v := 0) dL_late_1 (by decide) ?_
  refine wx_aload_n dL_late_2 rfl ?_
  refine wx_iload_n dL_late_3 rfl ?_
  refine wx_iload_n dL_late_4 rfl ?_
  refine wx_tryV dL_late_5 wl_late my_X11_late iv_X11_late (sc_0 hS) (by decide) (x_X11_late (d := d - 1) hS (by omega) h) rfl (by omega) (by exact Nat.le_of_ble_eq_true rfl) (by omega) (by omega) ?_ (fun _ _ _ _ _ _ q => q.elim)
  rintro E sh' M' L' R' n' ⟨rfl, rfl, rfl, rfl, rfl, hn'⟩
  exact ⟨1, ⟨[], _, _, rfl, px_0e, by decide, by decide, by decide, cx_24, ca_IOOBE, (Or.inr ⟨4, 1, dL_late_13, by decide, dL_late_15, by decide, dL_late_16⟩)⟩, rfl, rfl, rfl, rfl, rfl, hn'⟩
theorem w_late_x0 {d : Nat} {X : Nat × (Nat → Int32)} {sh : px_Sh} {M : px_M} {L : px_L} {R : px_R} {n : Nat} {p1 : Int32} {p2 : Int32} (hS : SR sh R) (hd : 8 ≤ d) (h : f_X11_late sh M L R p1 p2 = some (.inr 0)) : MXW yL_late cL_late 5 (some .int) [(0, 10, 13, 24), (0, 10, 17, 13)] d 1 6 X [.ref 0, .int p1, .int p2, .ref 219] sh M L R n (px_wx 2 sh M L R n) := by
  refine MXW.of (by decide +kernel) (by exact Nat.le_of_ble_eq_true rfl) ?_
  refine wx_aload_n dL_late_0 rfl ?_
  refine wx_iconst (v := 0) dL_late_1 (by decide) ?_
  refine wx_aload_n dL_late_2 rfl ?_
  refine wx_iload_n dL_late_3 rfl ?_
  refine wx_iload_n dL_late_4 rfl ?_
  refine wx_tryV dL_late_5 wl_late my_X11_late iv_X11_late (sc_0 hS) (by decide) (x_X11_late (d := d - 1) hS (by omega) h) rfl (by omega) (by exact Nat.le_of_ble_eq_true rfl) (by omega) (by omega) ?_ (fun _ _ _ _ _ _ q => q.elim)
  rintro E sh' M' L' R' n' ⟨rfl, rfl, rfl, rfl, rfl, hn'⟩
  exact ⟨2, ⟨[_], _, _, rfl, (fun z hz => by
      simp only [List.mem_cons, List.not_mem_nil, or_false] at hz
      rcases hz with rfl
      · exact ⟨by decide, "java/lang/IndexOutOfBoundsException", by decide, by decide, cx_24⟩), by decide, by decide, by decide, cx_13, ca_IAE, (Or.inr ⟨4, 2, dL_late_17, by decide, dL_late_19, by decide, dL_late_20⟩)⟩, rfl, rfl, rfl, rfl, rfl, hn'⟩
theorem w_lateN {d : Nat} {X : Nat × (Nat → Int32)} {sh : px_Sh} {M : px_M} {L : px_L} {R : px_R} {n : Nat} {p1 : Int32} {p2 : Int32} {e : Int32 × px_Sh × px_M × px_L × px_R × Nat} (hS : SR sh R) (hd : 8 ≤ d) (hn : 220 ≤ n) (h : f_X11_lateN sh M L R n p1 p2 = some (.inl e)) : MXW yL_late cL_late 5 (some .int) [(0, 10, 13, 24), (0, 10, 17, 13)] d 2 20996 X [.ref 0, .int p1, .int p2, .ref 219] sh M L R n (px_pa (some (.int 0)) e.2.1 e.2.2.1 (px_u e.2.2.2.1 219 0 (e.1 : Int32).toInt64) e.2.2.2.2.1 e.2.2.2.2.2) := by
  refine MXW.of (by decide +kernel) (by exact Nat.le_of_ble_eq_true rfl) ?_
  refine wx_aload_n dL_late_0 rfl ?_
  refine wx_iconst (v := 0) dL_late_1 (by decide) ?_
  refine wx_aload_n dL_late_2 rfl ?_
  refine wx_iload_n dL_late_3 rfl ?_
  refine wx_iload_n dL_late_4 rfl ?_
  refine wx_tryV dL_late_5 wl_late my_X11_late iv_X11_late (sc_0 hS) (by decide) (s_X11_lateN (d := d - 1) hS (by omega) hn h) rfl (by omega) (by exact Nat.le_of_ble_eq_true rfl) (by omega) (by omega) (fun _ _ _ _ _ _ q => q.elim) ?_
  rintro v sh' M' L' R' n' ⟨⟨rfl, rfl, rfl, rfl, rfl, rfl⟩, hS, hn⟩
  refine wx_i2l dL_late_8 ?_
  refine wx_lastk (k := 0) dL_late_9 (sc_219 hS) rfl (by decide) (by decide) ?_
  refine wx_goto (tgt := 21) dL_late_10 (by decide) ?_
  refine wx_iconst (v := 0) dL_late_21 (by decide) ?_
  refine wx_iret dL_late_22 (by omega) (by omega) ?_
  exact ⟨⟨rfl, rfl, rfl, rfl, rfl, rfl⟩, hS, hn⟩
theorem w_least {d : Nat} {X : Nat × (Nat → Int32)} {sh : px_Sh} {M : px_M} {L : px_L} {R : px_R} {n : Nat} {p1 : Int32} {p2 : Int32} {e : Int32 × px_M × px_L} (hS : SR sh R) (hd : 8 ≤ d) (h : f_X11_least sh M L R p1 p2 = some (.inl e)) : MXW yL_least cL_least 5 (some .int) [(0, 10, 13, 24), (0, 10, 17, 13)] d 0 0 X [.ref 0, .int p1, .int p2, .ref 219] sh M L R n (px_pu (some (.int 0)) sh e.2.1 (px_u e.2.2 219 0 (e.1 : Int32).toInt64) R n) := by
  refine MXW.of (by decide +kernel) (by exact Nat.le_of_ble_eq_true rfl) ?_
  refine wx_aload_n dL_least_0 rfl ?_
  refine wx_iconst (v := 0) dL_least_1 (by decide) ?_
  refine wx_aload_n dL_least_2 rfl ?_
  refine wx_iload_n dL_least_3 rfl ?_
  refine wx_iload_n dL_least_4 rfl ?_
  refine wx_tryV dL_least_5 wl_least my_X11_least iv_X11_least (sc_0 hS) (by decide) (s_X11_least (d := d - 1) hS (by omega) h) rfl (by omega) (by exact Nat.le_of_ble_eq_true rfl) (by omega) (by omega) (fun _ _ _ _ _ _ q => q.elim) ?_
  rintro v sh' M' L' R' n' ⟨rfl, rfl, rfl, rfl, rfl, rfl⟩
  refine wx_i2l dL_least_8 ?_
  refine wx_lastk (k := 0) dL_least_9 (sc_219 hS) rfl (by decide) (by decide) ?_
  refine wx_goto (tgt := 21) dL_least_10 (by decide) ?_
  refine wx_iconst (v := 0) dL_least_21 (by decide) ?_
  refine wx_iret dL_least_22 (by omega) (by omega) ?_
  exact ⟨rfl, rfl, rfl, rfl, rfl, rfl⟩
theorem w_least_x2 {d : Nat} {X : Nat × (Nat → Int32)} {sh : px_Sh} {M : px_M} {L : px_L} {R : px_R} {n : Nat} {p1 : Int32} {p2 : Int32} (hS : SR sh R) (hd : 8 ≤ d) (h : f_X11_least sh M L R p1 p2 = some (.inr 2)) : MXW yL_least cL_least 5 (some .int) [(0, 10, 13, 24), (0, 10, 17, 13)] d 1 6 X [.ref 0, .int p1, .int p2, .ref 219] sh M L R n (px_wx 1 sh M L R n) := by
  refine MXW.of (by decide +kernel) (by exact Nat.le_of_ble_eq_true rfl) ?_
  refine wx_aload_n dL_least_0 rfl ?_
  refine wx_iconst (v := 0) dL_least_1 (by decide) ?_
  refine wx_aload_n dL_least_2 rfl ?_
  refine wx_iload_n dL_least_3 rfl ?_
  refine wx_iload_n dL_least_4 rfl ?_
  refine wx_tryV dL_least_5 wl_least my_X11_least iv_X11_least (sc_0 hS) (by decide) (x_X11_least (d := d - 1) hS (by omega) h) rfl (by omega) (by exact Nat.le_of_ble_eq_true rfl) (by omega) (by omega) ?_ (fun _ _ _ _ _ _ q => q.elim)
  rintro E sh' M' L' R' n' ⟨rfl, rfl, rfl, rfl, rfl, hn'⟩
  exact ⟨1, ⟨[], _, _, rfl, px_0e, by decide, by decide, by decide, cx_24, ca_IOOBE, (Or.inr ⟨4, 1, dL_least_13, by decide, dL_least_15, by decide, dL_least_16⟩)⟩, rfl, rfl, rfl, rfl, rfl, hn'⟩
theorem w_least_x0 {d : Nat} {X : Nat × (Nat → Int32)} {sh : px_Sh} {M : px_M} {L : px_L} {R : px_R} {n : Nat} {p1 : Int32} {p2 : Int32} (hS : SR sh R) (hd : 8 ≤ d) (h : f_X11_least sh M L R p1 p2 = some (.inr 0)) : MXW yL_least cL_least 5 (some .int) [(0, 10, 13, 24), (0, 10, 17, 13)] d 1 6 X [.ref 0, .int p1, .int p2, .ref 219] sh M L R n (px_wx 2 sh M L R n) := by
  refine MXW.of (by decide +kernel) (by exact Nat.le_of_ble_eq_true rfl) ?_
  refine wx_aload_n dL_least_0 rfl ?_
  refine wx_iconst (v := 0) dL_least_1 (by decide) ?_
  refine wx_aload_n dL_least_2 rfl ?_
  refine wx_iload_n dL_least_3 rfl ?_
  refine wx_iload_n dL_least_4 rfl ?_
  refine wx_tryV dL_least_5 wl_least my_X11_least iv_X11_least (sc_0 hS) (by decide) (x_X11_least (d := d - 1) hS (by omega) h) rfl (by omega) (by exact Nat.le_of_ble_eq_true rfl) (by omega) (by omega) ?_ (fun _ _ _ _ _ _ q => q.elim)
  rintro E sh' M' L' R' n' ⟨rfl, rfl, rfl, rfl, rfl, hn'⟩
  exact ⟨2, ⟨[_], _, _, rfl, (fun z hz => by
      simp only [List.mem_cons, List.not_mem_nil, or_false] at hz
      rcases hz with rfl
      · exact ⟨by decide, "java/lang/IndexOutOfBoundsException", by decide, by decide, cx_24⟩), by decide, by decide, by decide, cx_13, ca_IAE, (Or.inr ⟨4, 2, dL_least_17, by decide, dL_least_19, by decide, dL_least_20⟩)⟩, rfl, rfl, rfl, rfl, rfl, hn'⟩
theorem w_leastN {d : Nat} {X : Nat × (Nat → Int32)} {sh : px_Sh} {M : px_M} {L : px_L} {R : px_R} {n : Nat} {p1 : Int32} {p2 : Int32} {e : Int32 × px_Sh × px_M × px_L × px_R × Nat} (hS : SR sh R) (hd : 8 ≤ d) (hn : 220 ≤ n) (h : f_X11_leastN sh M L R n p1 p2 = some (.inl e)) : MXW yL_least cL_least 5 (some .int) [(0, 10, 13, 24), (0, 10, 17, 13)] d 4 41992 X [.ref 0, .int p1, .int p2, .ref 219] sh M L R n (px_pa (some (.int 0)) e.2.1 e.2.2.1 (px_u e.2.2.2.1 219 0 (e.1 : Int32).toInt64) e.2.2.2.2.1 e.2.2.2.2.2) := by
  refine MXW.of (by decide +kernel) (by exact Nat.le_of_ble_eq_true rfl) ?_
  refine wx_aload_n dL_least_0 rfl ?_
  refine wx_iconst (v := 0) dL_least_1 (by decide) ?_
  refine wx_aload_n dL_least_2 rfl ?_
  refine wx_iload_n dL_least_3 rfl ?_
  refine wx_iload_n dL_least_4 rfl ?_
  refine wx_tryV dL_least_5 wl_least my_X11_least iv_X11_least (sc_0 hS) (by decide) (s_X11_leastN (d := d - 1) hS (by omega) hn h) rfl (by omega) (by exact Nat.le_of_ble_eq_true rfl) (by omega) (by omega) (fun _ _ _ _ _ _ q => q.elim) ?_
  rintro v sh' M' L' R' n' ⟨⟨rfl, rfl, rfl, rfl, rfl, rfl⟩, hS, hn⟩
  refine wx_i2l dL_least_8 ?_
  refine wx_lastk (k := 0) dL_least_9 (sc_219 hS) rfl (by decide) (by decide) ?_
  refine wx_goto (tgt := 21) dL_least_10 (by decide) ?_
  refine wx_iconst (v := 0) dL_least_21 (by decide) ?_
  refine wx_iret dL_least_22 (by omega) (by omega) ?_
  exact ⟨⟨rfl, rfl, rfl, rfl, rfl, rfl⟩, hS, hn⟩
theorem w_lies {d : Nat} {X : Nat × (Nat → Int32)} {sh : px_Sh} {M : px_M} {L : px_L} {R : px_R} {n : Nat} {p1 : Int32} {e : Int32} (hS : SR sh R) (hd : 8 ≤ d) (h : f_X11_lies M p1 = some (.inl e)) : MXW yL_lies cL_lies 4 (some .int) [(0, 16, 19, 19), (0, 16, 22, 13)] d 0 0 X [.ref 0, .int p1, .ref 219] sh M L R n (px_pu (some (.int 0)) sh M (px_u L 219 0 (if e = 0 then 0 else 1)) R n) := by
  refine MXW.of (by decide +kernel) (by exact Nat.le_of_ble_eq_true rfl) ?_
  refine wx_aload_n dL_lies_0 rfl ?_
  refine wx_iconst (v := 0) dL_lies_1 (by decide) ?_
  refine wx_aload_n dL_lies_2 rfl ?_
  refine wx_iload_n dL_lies_3 rfl ?_
  refine wx_tryV dL_lies_4 wl_lies my_X11_lies iv_X11_lies (sc_0 hS) (by decide) (s_X11_lies (d := d - 1) hS (by omega) h) rfl (by omega) (by exact Nat.le_of_ble_eq_true rfl) (by omega) (by omega) (fun _ _ _ _ _ _ q => q.elim) ?_
  rintro v sh' M' L' R' n' ⟨rfl, rfl, rfl, rfl, rfl, rfl⟩
  refine wx_if_eq (tgt := 14) dL_lies_7 (by decide) (fun cz => ?_) (fun cz => ?_)
  · refine wx_lconst (v := 0) dL_lies_14 (by decide) ?_
    refine wx_lastk (k := 0) dL_lies_15 (sc_219 hS) rfl (by decide) (by decide) ?_
    refine wx_goto (tgt := 25) dL_lies_16 (by decide) ?_
    refine wx_iconst (v := 0) dL_lies_25 (by decide) ?_
    refine wx_iret dL_lies_26 (by omega) (by omega) ?_
    exact ⟨rfl, rfl, rfl, by rw [if_pos cz], rfl, rfl⟩
  · refine wx_lconst (v := 1) dL_lies_10 (by decide) ?_
    refine wx_goto (tgt := 15) dL_lies_11 (by decide) ?_
    refine wx_lastk (k := 0) dL_lies_15 (sc_219 hS) rfl (by decide) (by decide) ?_
    refine wx_goto (tgt := 25) dL_lies_16 (by decide) ?_
    refine wx_iconst (v := 0) dL_lies_25 (by decide) ?_
    refine wx_iret dL_lies_26 (by omega) (by omega) ?_
    exact ⟨rfl, rfl, rfl, by rw [if_neg cz], rfl, rfl⟩
theorem w_lies_x1 {d : Nat} {X : Nat × (Nat → Int32)} {sh : px_Sh} {M : px_M} {L : px_L} {R : px_R} {n : Nat} {p1 : Int32} (hS : SR sh R) (hd : 8 ≤ d) (h : f_X11_lies M p1 = some (.inr 1)) : MXW yL_lies cL_lies 4 (some .int) [(0, 16, 19, 19), (0, 16, 22, 13)] d 1 6 X [.ref 0, .int p1, .ref 219] sh M L R n (px_wx 1 sh M L R n) := by
  refine MXW.of (by decide +kernel) (by exact Nat.le_of_ble_eq_true rfl) ?_
  refine wx_aload_n dL_lies_0 rfl ?_
  refine wx_iconst (v := 0) dL_lies_1 (by decide) ?_
  refine wx_aload_n dL_lies_2 rfl ?_
  refine wx_iload_n dL_lies_3 rfl ?_
  refine wx_tryV dL_lies_4 wl_lies my_X11_lies iv_X11_lies (sc_0 hS) (by decide) (x_X11_lies (d := d - 1) hS (by omega) h) rfl (by omega) (by exact Nat.le_of_ble_eq_true rfl) (by omega) (by omega) ?_ (fun _ _ _ _ _ _ q => q.elim)
  rintro E sh' M' L' R' n' ⟨rfl, rfl, rfl, rfl, rfl, hn'⟩
  exact ⟨1, ⟨[], _, _, rfl, px_0e, by decide, by decide, by decide, cx_19, ca_ISE, (Or.inl ⟨3, 1, dL_lies_19, by decide, dL_lies_20, by decide, dL_lies_21⟩)⟩, rfl, rfl, rfl, rfl, rfl, hn'⟩
theorem w_lies_x0 {d : Nat} {X : Nat × (Nat → Int32)} {sh : px_Sh} {M : px_M} {L : px_L} {R : px_R} {n : Nat} {p1 : Int32} (hS : SR sh R) (hd : 8 ≤ d) (h : f_X11_lies M p1 = some (.inr 0)) : MXW yL_lies cL_lies 4 (some .int) [(0, 16, 19, 19), (0, 16, 22, 13)] d 1 6 X [.ref 0, .int p1, .ref 219] sh M L R n (px_wx 2 sh M L R n) := by
  refine MXW.of (by decide +kernel) (by exact Nat.le_of_ble_eq_true rfl) ?_
  refine wx_aload_n dL_lies_0 rfl ?_
  refine wx_iconst (v := 0) dL_lies_1 (by decide) ?_
  refine wx_aload_n dL_lies_2 rfl ?_
  refine wx_iload_n dL_lies_3 rfl ?_
  refine wx_tryV dL_lies_4 wl_lies my_X11_lies iv_X11_lies (sc_0 hS) (by decide) (x_X11_lies (d := d - 1) hS (by omega) h) rfl (by omega) (by exact Nat.le_of_ble_eq_true rfl) (by omega) (by omega) ?_ (fun _ _ _ _ _ _ q => q.elim)
  rintro E sh' M' L' R' n' ⟨rfl, rfl, rfl, rfl, rfl, hn'⟩
  exact ⟨2, ⟨[_], _, _, rfl, (fun z hz => by
      simp only [List.mem_cons, List.not_mem_nil, or_false] at hz
      rcases hz with rfl
      · exact ⟨by decide, "java/lang/IllegalStateException", by decide, by decide, cx_19⟩), by decide, by decide, by decide, cx_13, ca_IAE, (Or.inl ⟨3, 2, dL_lies_22, by decide, dL_lies_23, by decide, dL_lies_24⟩)⟩, rfl, rfl, rfl, rfl, rfl, hn'⟩
theorem w_note {d : Nat} {X : Nat × (Nat → Int32)} {sh : px_Sh} {M : px_M} {L : px_L} {R : px_R} {n : Nat} {p1 : Int32} {p2 : Int32} {e : Int32} (hS : SR sh R) (hd : 8 ≤ d) (h : f_X11_note M p1 p2 = some (.inl e)) : MXW yL_note cL_note 5 (some .int) [(0, 10, 13, 13)] d 0 0 X [.ref 0, .int p1, .int p2, .ref 219] sh M L R n (px_pu (some (.int 0)) sh M (px_u L 219 0 (e : Int32).toInt64) R n) := by
  refine MXW.of (by decide +kernel) (by exact Nat.le_of_ble_eq_true rfl) ?_
  refine wx_aload_n dL_note_0 rfl ?_
  refine wx_iconst (v := 0) dL_note_1 (by decide) ?_
  refine wx_aload_n dL_note_2 rfl ?_
  refine wx_iload_n dL_note_3 rfl ?_
  refine wx_iload_n dL_note_4 rfl ?_
  refine wx_tryV dL_note_5 wl_note my_X11_note iv_X11_note (sc_0 hS) (by decide) (s_X11_note (d := d - 1) hS (by omega) h) rfl (by omega) (by exact Nat.le_of_ble_eq_true rfl) (by omega) (by omega) (fun _ _ _ _ _ _ q => q.elim) ?_
  rintro v sh' M' L' R' n' ⟨rfl, rfl, rfl, rfl, rfl, rfl⟩
  refine wx_i2l dL_note_8 ?_
  refine wx_lastk (k := 0) dL_note_9 (sc_219 hS) rfl (by decide) (by decide) ?_
  refine wx_goto (tgt := 17) dL_note_10 (by decide) ?_
  refine wx_iconst (v := 0) dL_note_17 (by decide) ?_
  refine wx_iret dL_note_18 (by omega) (by omega) ?_
  exact ⟨rfl, rfl, rfl, rfl, rfl, rfl⟩
theorem w_note_x0 {d : Nat} {X : Nat × (Nat → Int32)} {sh : px_Sh} {M : px_M} {L : px_L} {R : px_R} {n : Nat} {p1 : Int32} {p2 : Int32} (hS : SR sh R) (hd : 8 ≤ d) (h : f_X11_note M p1 p2 = some (.inr 0)) : MXW yL_note cL_note 5 (some .int) [(0, 10, 13, 13)] d 1 6 X [.ref 0, .int p1, .int p2, .ref 219] sh M L R n (px_wx 1 sh M L R n) := by
  refine MXW.of (by decide +kernel) (by exact Nat.le_of_ble_eq_true rfl) ?_
  refine wx_aload_n dL_note_0 rfl ?_
  refine wx_iconst (v := 0) dL_note_1 (by decide) ?_
  refine wx_aload_n dL_note_2 rfl ?_
  refine wx_iload_n dL_note_3 rfl ?_
  refine wx_iload_n dL_note_4 rfl ?_
  refine wx_tryV dL_note_5 wl_note my_X11_note iv_X11_note (sc_0 hS) (by decide) (x_X11_note (d := d - 1) hS (by omega) h) rfl (by omega) (by exact Nat.le_of_ble_eq_true rfl) (by omega) (by omega) ?_ (fun _ _ _ _ _ _ q => q.elim)
  rintro E sh' M' L' R' n' ⟨rfl, rfl, rfl, rfl, rfl, hn'⟩
  exact ⟨1, ⟨[], _, _, rfl, px_0e, by decide, by decide, by decide, cx_13, ca_IAE, (Or.inr ⟨4, 1, dL_note_13, by decide, dL_note_15, by decide, dL_note_16⟩)⟩, rfl, rfl, rfl, rfl, rfl, hn'⟩
theorem w_of {d : Nat} {X : Nat × (Nat → Int32)} {sh : px_Sh} {M : px_M} {L : px_L} {R : px_R} {n : Nat} {p1 : Int32} {p2 : Int32} {e : Int32} (hS : SR sh R) (hd : 8 ≤ d) (h : f_X11_of sh M R p1 p2 = some (.inl e)) : MXW yL_of cL_of 5 (some .int) [(0, 10, 13, 44), (0, 10, 17, 13)] d 0 0 X [.ref 0, .int p1, .int p2, .ref 219] sh M L R n (px_pu (some (.int 0)) sh M (px_u L 219 0 (e : Int32).toInt64) R n) := by
  refine MXW.of (by decide +kernel) (by exact Nat.le_of_ble_eq_true rfl) ?_
  refine wx_aload_n dL_of_0 rfl ?_
  refine wx_iconst (v := 0) dL_of_1 (by decide) ?_
  refine wx_aload_n dL_of_2 rfl ?_
  refine wx_iload_n dL_of_3 rfl ?_
  refine wx_iload_n dL_of_4 rfl ?_
  refine wx_tryV dL_of_5 wl_of my_X11_of iv_X11_of (sc_0 hS) (by decide) (s_X11_of (d := d - 1) hS (by omega) h) rfl (by omega) (by exact Nat.le_of_ble_eq_true rfl) (by omega) (by omega) (fun _ _ _ _ _ _ q => q.elim) ?_
  rintro v sh' M' L' R' n' ⟨rfl, rfl, rfl, rfl, rfl, rfl⟩
  refine wx_i2l dL_of_8 ?_
  refine wx_lastk (k := 0) dL_of_9 (sc_219 hS) rfl (by decide) (by decide) ?_
  refine wx_goto (tgt := 21) dL_of_10 (by decide) ?_
  refine wx_iconst (v := 0) dL_of_21 (by decide) ?_
  refine wx_iret dL_of_22 (by omega) (by omega) ?_
  exact ⟨rfl, rfl, rfl, rfl, rfl, rfl⟩
theorem w_of_x3 {d : Nat} {X : Nat × (Nat → Int32)} {sh : px_Sh} {M : px_M} {L : px_L} {R : px_R} {n : Nat} {p1 : Int32} {p2 : Int32} (hS : SR sh R) (hd : 8 ≤ d) (h : f_X11_of sh M R p1 p2 = some (.inr 3)) : MXW yL_of cL_of 5 (some .int) [(0, 10, 13, 44), (0, 10, 17, 13)] d 1 6 X [.ref 0, .int p1, .int p2, .ref 219] sh M L R n (px_wx 1 sh M L R n) := by
  refine MXW.of (by decide +kernel) (by exact Nat.le_of_ble_eq_true rfl) ?_
  refine wx_aload_n dL_of_0 rfl ?_
  refine wx_iconst (v := 0) dL_of_1 (by decide) ?_
  refine wx_aload_n dL_of_2 rfl ?_
  refine wx_iload_n dL_of_3 rfl ?_
  refine wx_iload_n dL_of_4 rfl ?_
  refine wx_tryV dL_of_5 wl_of my_X11_of iv_X11_of (sc_0 hS) (by decide) (x_X11_of (d := d - 1) hS (by omega) h) rfl (by omega) (by exact Nat.le_of_ble_eq_true rfl) (by omega) (by omega) ?_ (fun _ _ _ _ _ _ q => q.elim)
  rintro E sh' M' L' R' n' ⟨rfl, rfl, rfl, rfl, rfl, hn'⟩
  exact ⟨1, ⟨[], _, _, rfl, px_0e, by decide, by decide, by decide, cx_44, ca_NSEE, (Or.inr ⟨4, 1, dL_of_13, by decide, dL_of_15, by decide, dL_of_16⟩)⟩, rfl, rfl, rfl, rfl, rfl, hn'⟩
theorem w_of_x0 {d : Nat} {X : Nat × (Nat → Int32)} {sh : px_Sh} {M : px_M} {L : px_L} {R : px_R} {n : Nat} {p1 : Int32} {p2 : Int32} (hS : SR sh R) (hd : 8 ≤ d) (h : f_X11_of sh M R p1 p2 = some (.inr 0)) : MXW yL_of cL_of 5 (some .int) [(0, 10, 13, 44), (0, 10, 17, 13)] d 1 6 X [.ref 0, .int p1, .int p2, .ref 219] sh M L R n (px_wx 2 sh M L R n) := by
  refine MXW.of (by decide +kernel) (by exact Nat.le_of_ble_eq_true rfl) ?_
  refine wx_aload_n dL_of_0 rfl ?_
  refine wx_iconst (v := 0) dL_of_1 (by decide) ?_
  refine wx_aload_n dL_of_2 rfl ?_
  refine wx_iload_n dL_of_3 rfl ?_
  refine wx_iload_n dL_of_4 rfl ?_
  refine wx_tryV dL_of_5 wl_of my_X11_of iv_X11_of (sc_0 hS) (by decide) (x_X11_of (d := d - 1) hS (by omega) h) rfl (by omega) (by exact Nat.le_of_ble_eq_true rfl) (by omega) (by omega) ?_ (fun _ _ _ _ _ _ q => q.elim)
  rintro E sh' M' L' R' n' ⟨rfl, rfl, rfl, rfl, rfl, hn'⟩
  exact ⟨2, ⟨[_], _, _, rfl, (fun z hz => by
      simp only [List.mem_cons, List.not_mem_nil, or_false] at hz
      rcases hz with rfl
      · exact ⟨by decide, "java/util/NoSuchElementException", by decide, by decide, cx_44⟩), by decide, by decide, by decide, cx_13, ca_IAE, (Or.inr ⟨4, 2, dL_of_17, by decide, dL_of_19, by decide, dL_of_20⟩)⟩, rfl, rfl, rfl, rfl, rfl, hn'⟩
theorem w_offer {d : Nat} {X : Nat × (Nat → Int32)} {sh : px_Sh} {M : px_M} {L : px_L} {R : px_R} {n : Nat} {p1 : Int32} {p2 : Int32} {p3 : Int32} {p4 : Int32} {e : Int32 × px_M} (hS : SR sh R) (hd : 8 ≤ d) (h : f_X11_offer M p1 p2 p3 p4 = some (.inl e)) : MXW yL_offer cL_offer 7 (some .int) [(0, 14, 17, 13)] d 0 0 X [.ref 0, .int p1, .int p2, .int p3, .int p4, .ref 219] sh M L R n (px_pu (some (.int 0)) sh e.2 (px_u L 219 0 (e.1 : Int32).toInt64) R n) := by
  refine MXW.of (by decide +kernel) (by exact Nat.le_of_ble_eq_true rfl) ?_
  refine wx_aload dL_offer_0 rfl ?_
  refine wx_iconst (v := 0) dL_offer_2 (by decide) ?_
  refine wx_aload_n dL_offer_3 rfl ?_
  refine wx_iload_n dL_offer_4 rfl ?_
  refine wx_iload_n dL_offer_5 rfl ?_
  refine wx_iload_n dL_offer_6 rfl ?_
  refine wx_iload dL_offer_7 rfl ?_
  refine wx_tryV dL_offer_9 wl_offer my_X11_offer iv_X11_offer (sc_0 hS) (by decide) (s_X11_offer (d := d - 1) hS (by omega) h) rfl (by omega) (by exact Nat.le_of_ble_eq_true rfl) (by omega) (by omega) (fun _ _ _ _ _ _ q => q.elim) ?_
  rintro v sh' M' L' R' n' ⟨rfl, rfl, rfl, rfl, rfl, rfl⟩
  refine wx_i2l dL_offer_12 ?_
  refine wx_lastk (k := 0) dL_offer_13 (sc_219 hS) rfl (by decide) (by decide) ?_
  refine wx_goto (tgt := 21) dL_offer_14 (by decide) ?_
  refine wx_iconst (v := 0) dL_offer_21 (by decide) ?_
  refine wx_iret dL_offer_22 (by omega) (by omega) ?_
  exact ⟨rfl, rfl, rfl, rfl, rfl, rfl⟩
theorem w_offer_x0 {d : Nat} {X : Nat × (Nat → Int32)} {sh : px_Sh} {M : px_M} {L : px_L} {R : px_R} {n : Nat} {p1 : Int32} {p2 : Int32} {p3 : Int32} {p4 : Int32} (hS : SR sh R) (hd : 8 ≤ d) (h : f_X11_offer M p1 p2 p3 p4 = some (.inr 0)) : MXW yL_offer cL_offer 7 (some .int) [(0, 14, 17, 13)] d 1 6 X [.ref 0, .int p1, .int p2, .int p3, .int p4, .ref 219] sh M L R n (px_wx 1 sh M L R n) := by
  refine MXW.of (by decide +kernel) (by exact Nat.le_of_ble_eq_true rfl) ?_
  refine wx_aload dL_offer_0 rfl ?_
  refine wx_iconst (v := 0) dL_offer_2 (by decide) ?_
  refine wx_aload_n dL_offer_3 rfl ?_
  refine wx_iload_n dL_offer_4 rfl ?_
  refine wx_iload_n dL_offer_5 rfl ?_
  refine wx_iload_n dL_offer_6 rfl ?_
  refine wx_iload dL_offer_7 rfl ?_
  refine wx_tryV dL_offer_9 wl_offer my_X11_offer iv_X11_offer (sc_0 hS) (by decide) (x_X11_offer (d := d - 1) hS (by omega) h) rfl (by omega) (by exact Nat.le_of_ble_eq_true rfl) (by omega) (by omega) ?_ (fun _ _ _ _ _ _ q => q.elim)
  rintro E sh' M' L' R' n' ⟨rfl, rfl, rfl, rfl, rfl, hn'⟩
  exact ⟨1, ⟨[], _, _, rfl, px_0e, by decide, by decide, by decide, cx_13, ca_IAE, (Or.inr ⟨6, 1, dL_offer_17, by decide, dL_offer_19, by decide, dL_offer_20⟩)⟩, rfl, rfl, rfl, rfl, rfl, hn'⟩
theorem w_open {d : Nat} {X : Nat × (Nat → Int32)} {sh : px_Sh} {M : px_M} {L : px_L} {R : px_R} {n : Nat} {p1 : Int32} {e : Int32 × px_M} (hS : SR sh R) (hd : 8 ≤ d) (h : f_X11_open M p1 = some (.inl e)) : MXW yL_open cL_open 4 (some .int) [(0, 9, 12, 19), (0, 9, 15, 24)] d 0 0 X [.ref 0, .int p1, .ref 219] sh M L R n (px_pu (some (.int 0)) sh e.2 (px_u L 219 0 (e.1 : Int32).toInt64) R n) := by
  refine MXW.of (by decide +kernel) (by exact Nat.le_of_ble_eq_true rfl) ?_
  refine wx_aload_n dL_open_0 rfl ?_
  refine wx_iconst (v := 0) dL_open_1 (by decide) ?_
  refine wx_aload_n dL_open_2 rfl ?_
  refine wx_iload_n dL_open_3 rfl ?_
  refine wx_tryV dL_open_4 wl_open my_X11_open iv_X11_open (sc_0 hS) (by decide) (s_X11_open (d := d - 1) hS (by omega) h) rfl (by omega) (by exact Nat.le_of_ble_eq_true rfl) (by omega) (by omega) (fun _ _ _ _ _ _ q => q.elim) ?_
  rintro v sh' M' L' R' n' ⟨rfl, rfl, rfl, rfl, rfl, rfl⟩
  refine wx_i2l dL_open_7 ?_
  refine wx_lastk (k := 0) dL_open_8 (sc_219 hS) rfl (by decide) (by decide) ?_
  refine wx_goto (tgt := 18) dL_open_9 (by decide) ?_
  refine wx_iconst (v := 0) dL_open_18 (by decide) ?_
  refine wx_iret dL_open_19 (by omega) (by omega) ?_
  exact ⟨rfl, rfl, rfl, rfl, rfl, rfl⟩
theorem w_open_x1 {d : Nat} {X : Nat × (Nat → Int32)} {sh : px_Sh} {M : px_M} {L : px_L} {R : px_R} {n : Nat} {p1 : Int32} (hS : SR sh R) (hd : 8 ≤ d) (h : f_X11_open M p1 = some (.inr 1)) : MXW yL_open cL_open 4 (some .int) [(0, 9, 12, 19), (0, 9, 15, 24)] d 1 6 X [.ref 0, .int p1, .ref 219] sh M L R n (px_wx 1 sh M L R n) := by
  refine MXW.of (by decide +kernel) (by exact Nat.le_of_ble_eq_true rfl) ?_
  refine wx_aload_n dL_open_0 rfl ?_
  refine wx_iconst (v := 0) dL_open_1 (by decide) ?_
  refine wx_aload_n dL_open_2 rfl ?_
  refine wx_iload_n dL_open_3 rfl ?_
  refine wx_tryV dL_open_4 wl_open my_X11_open iv_X11_open (sc_0 hS) (by decide) (x_X11_open (d := d - 1) hS (by omega) h) rfl (by omega) (by exact Nat.le_of_ble_eq_true rfl) (by omega) (by omega) ?_ (fun _ _ _ _ _ _ q => q.elim)
  rintro E sh' M' L' R' n' ⟨rfl, rfl, rfl, rfl, rfl, hn'⟩
  exact ⟨1, ⟨[], _, _, rfl, px_0e, by decide, by decide, by decide, cx_19, ca_ISE, (Or.inl ⟨3, 1, dL_open_12, by decide, dL_open_13, by decide, dL_open_14⟩)⟩, rfl, rfl, rfl, rfl, rfl, hn'⟩
theorem w_open_x2 {d : Nat} {X : Nat × (Nat → Int32)} {sh : px_Sh} {M : px_M} {L : px_L} {R : px_R} {n : Nat} {p1 : Int32} (hS : SR sh R) (hd : 8 ≤ d) (h : f_X11_open M p1 = some (.inr 2)) : MXW yL_open cL_open 4 (some .int) [(0, 9, 12, 19), (0, 9, 15, 24)] d 1 6 X [.ref 0, .int p1, .ref 219] sh M L R n (px_wx 2 sh M L R n) := by
  refine MXW.of (by decide +kernel) (by exact Nat.le_of_ble_eq_true rfl) ?_
  refine wx_aload_n dL_open_0 rfl ?_
  refine wx_iconst (v := 0) dL_open_1 (by decide) ?_
  refine wx_aload_n dL_open_2 rfl ?_
  refine wx_iload_n dL_open_3 rfl ?_
  refine wx_tryV dL_open_4 wl_open my_X11_open iv_X11_open (sc_0 hS) (by decide) (x_X11_open (d := d - 1) hS (by omega) h) rfl (by omega) (by exact Nat.le_of_ble_eq_true rfl) (by omega) (by omega) ?_ (fun _ _ _ _ _ _ q => q.elim)
  rintro E sh' M' L' R' n' ⟨rfl, rfl, rfl, rfl, rfl, hn'⟩
  exact ⟨2, ⟨[_], _, _, rfl, (fun z hz => by
      simp only [List.mem_cons, List.not_mem_nil, or_false] at hz
      rcases hz with rfl
      · exact ⟨by decide, "java/lang/IllegalStateException", by decide, by decide, cx_19⟩), by decide, by decide, by decide, cx_24, ca_IOOBE, (Or.inl ⟨3, 2, dL_open_15, by decide, dL_open_16, by decide, dL_open_17⟩)⟩, rfl, rfl, rfl, rfl, rfl, hn'⟩
theorem w_orders {d : Nat} {X : Nat × (Nat → Int32)} {sh : px_Sh} {M : px_M} {L : px_L} {R : px_R} {n : Nat} {e : Int32 × px_M} (hS : SR sh R) (hd : 8 ≤ d) (h : f_X11_orders M = some (.inl e)) : MXW yL_orders cL_orders 3 (some .int) [(0, 8, 11, 19)] d 0 0 X [.ref 0, .ref 219] sh M L R n (px_pu (some (.int 0)) sh e.2 (px_u L 219 0 (e.1 : Int32).toInt64) R n) := by
  refine MXW.of (by decide +kernel) (by exact Nat.le_of_ble_eq_true rfl) ?_
  refine wx_aload_n dL_orders_0 rfl ?_
  refine wx_iconst (v := 0) dL_orders_1 (by decide) ?_
  refine wx_aload_n dL_orders_2 rfl ?_
  refine wx_tryV dL_orders_3 wl_orders my_X11_orders iv_X11_orders (sc_0 hS) (by decide) (s_X11_orders (d := d - 1) hS (by omega) h) rfl (by omega) (by exact Nat.le_of_ble_eq_true rfl) (by omega) (by omega) (fun _ _ _ _ _ _ q => q.elim) ?_
  rintro v sh' M' L' R' n' ⟨rfl, rfl, rfl, rfl, rfl, rfl⟩
  refine wx_i2l dL_orders_6 ?_
  refine wx_lastk (k := 0) dL_orders_7 (sc_219 hS) rfl (by decide) (by decide) ?_
  refine wx_goto (tgt := 14) dL_orders_8 (by decide) ?_
  refine wx_iconst (v := 0) dL_orders_14 (by decide) ?_
  refine wx_iret dL_orders_15 (by omega) (by omega) ?_
  exact ⟨rfl, rfl, rfl, rfl, rfl, rfl⟩
theorem w_orders_x1 {d : Nat} {X : Nat × (Nat → Int32)} {sh : px_Sh} {M : px_M} {L : px_L} {R : px_R} {n : Nat} (hS : SR sh R) (hd : 8 ≤ d) (h : f_X11_orders M = some (.inr 1)) : MXW yL_orders cL_orders 3 (some .int) [(0, 8, 11, 19)] d 1 6 X [.ref 0, .ref 219] sh M L R n (px_wx 1 sh M L R n) := by
  refine MXW.of (by decide +kernel) (by exact Nat.le_of_ble_eq_true rfl) ?_
  refine wx_aload_n dL_orders_0 rfl ?_
  refine wx_iconst (v := 0) dL_orders_1 (by decide) ?_
  refine wx_aload_n dL_orders_2 rfl ?_
  refine wx_tryV dL_orders_3 wl_orders my_X11_orders iv_X11_orders (sc_0 hS) (by decide) (x_X11_orders (d := d - 1) hS (by omega) h) rfl (by omega) (by exact Nat.le_of_ble_eq_true rfl) (by omega) (by omega) ?_ (fun _ _ _ _ _ _ q => q.elim)
  rintro E sh' M' L' R' n' ⟨rfl, rfl, rfl, rfl, rfl, hn'⟩
  exact ⟨1, ⟨[], _, _, rfl, px_0e, by decide, by decide, by decide, cx_19, ca_ISE, (Or.inl ⟨2, 1, dL_orders_11, by decide, dL_orders_12, by decide, dL_orders_13⟩)⟩, rfl, rfl, rfl, rfl, rfl, hn'⟩
theorem w_panel {d : Nat} {X : Nat × (Nat → Int32)} {sh : px_Sh} {M : px_M} {L : px_L} {R : px_R} {n : Nat} {p1 : Int32} {p2 : Int32} {p3 : Int32} {p4 : Int32} {p5 : Int32} {e : Int32 × px_Sh × px_M × px_L × px_R × Nat} (hS : SR sh R) (hd : 8 ≤ d) (hn : 220 ≤ n) (h : f_X11_panel sh M L R n p1 p2 p3 p4 p5 = some (.inl e)) : MXW yL_panel cL_panel 8 (some .int) [(0, 16, 19, 13)] d 1 11 X [.ref 0, .int p1, .int p2, .int p3, .int p4, .int p5, .ref 219] sh M L R n (px_pa (some (.int 0)) e.2.1 e.2.2.1 (px_u e.2.2.2.1 219 0 (e.1 : Int32).toInt64) e.2.2.2.2.1 e.2.2.2.2.2) := by
  refine MXW.of (by decide +kernel) (by exact Nat.le_of_ble_eq_true rfl) ?_
  refine wx_aload dL_panel_0 rfl ?_
  refine wx_iconst (v := 0) dL_panel_2 (by decide) ?_
  refine wx_aload_n dL_panel_3 rfl ?_
  refine wx_iload_n dL_panel_4 rfl ?_
  refine wx_iload_n dL_panel_5 rfl ?_
  refine wx_iload_n dL_panel_6 rfl ?_
  refine wx_iload dL_panel_7 rfl ?_
  refine wx_iload dL_panel_9 rfl ?_
  refine wx_tryV dL_panel_11 wl_panel my_X11_panel iv_X11_panel (sc_0 hS) (by decide) (s_X11_panel (d := d - 1) hS (by omega) hn h) rfl (by omega) (by exact Nat.le_of_ble_eq_true rfl) (by omega) (by omega) (fun _ _ _ _ _ _ q => q.elim) ?_
  rintro v sh' M' L' R' n' ⟨⟨rfl, rfl, rfl, rfl, rfl, rfl⟩, hS, hn⟩
  refine wx_i2l dL_panel_14 ?_
  refine wx_lastk (k := 0) dL_panel_15 (sc_219 hS) rfl (by decide) (by decide) ?_
  refine wx_goto (tgt := 23) dL_panel_16 (by decide) ?_
  refine wx_iconst (v := 0) dL_panel_23 (by decide) ?_
  refine wx_iret dL_panel_24 (by omega) (by omega) ?_
  exact ⟨⟨rfl, rfl, rfl, rfl, rfl, rfl⟩, hS, hn⟩
theorem w_panel_x0 {d : Nat} {X : Nat × (Nat → Int32)} {sh : px_Sh} {M : px_M} {L : px_L} {R : px_R} {n : Nat} {p1 : Int32} {p2 : Int32} {p3 : Int32} {p4 : Int32} {p5 : Int32} (hS : SR sh R) (hd : 8 ≤ d) (hn : 220 ≤ n) (h : f_X11_panel sh M L R n p1 p2 p3 p4 p5 = some (.inr 0)) : MXW yL_panel cL_panel 8 (some .int) [(0, 16, 19, 13)] d 1 6 X [.ref 0, .int p1, .int p2, .int p3, .int p4, .int p5, .ref 219] sh M L R n (px_wx 1 sh M L R n) := by
  refine MXW.of (by decide +kernel) (by exact Nat.le_of_ble_eq_true rfl) ?_
  refine wx_aload dL_panel_0 rfl ?_
  refine wx_iconst (v := 0) dL_panel_2 (by decide) ?_
  refine wx_aload_n dL_panel_3 rfl ?_
  refine wx_iload_n dL_panel_4 rfl ?_
  refine wx_iload_n dL_panel_5 rfl ?_
  refine wx_iload_n dL_panel_6 rfl ?_
  refine wx_iload dL_panel_7 rfl ?_
  refine wx_iload dL_panel_9 rfl ?_
  refine wx_tryV dL_panel_11 wl_panel my_X11_panel iv_X11_panel (sc_0 hS) (by decide) (x_X11_panel (d := d - 1) hS (by omega) hn h) rfl (by omega) (by exact Nat.le_of_ble_eq_true rfl) (by omega) (by omega) ?_ (fun _ _ _ _ _ _ q => q.elim)
  rintro E sh' M' L' R' n' ⟨rfl, rfl, rfl, rfl, rfl, hn'⟩
  exact ⟨1, ⟨[], _, _, rfl, px_0e, by decide, by decide, by decide, cx_13, ca_IAE, (Or.inr ⟨7, 1, dL_panel_19, by decide, dL_panel_21, by decide, dL_panel_22⟩)⟩, rfl, rfl, rfl, rfl, rfl, hn'⟩
theorem w_pull {d : Nat} {X : Nat × (Nat → Int32)} {sh : px_Sh} {M : px_M} {L : px_L} {R : px_R} {n : Nat} {p1 : Int32} {p2 : Int32} {p3 : Int32} {e : px_M} (hS : SR sh R) (hd : 8 ≤ d) (h : f_X11_pull M p1 p2 p3 = some (.inl e)) : MXW yL_pull cL_pull 5 (some .int) [(0, 7, 10, 24), (0, 7, 14, 13)] d 0 0 X [.ref 0, .int p1, .int p2, .int p3] sh M L R n (px_pu (some (.int 0)) sh e L R n) := by
  refine MXW.of (by decide +kernel) (by exact Nat.le_of_ble_eq_true rfl) ?_
  refine wx_aload_n dL_pull_0 rfl ?_
  refine wx_iload_n dL_pull_1 rfl ?_
  refine wx_iload_n dL_pull_2 rfl ?_
  refine wx_iload_n dL_pull_3 rfl ?_
  refine wx_tryV dL_pull_4 wl_pull my_X11_pull iv_X11_pull (sc_0 hS) (by decide) (s_X11_pull (d := d - 1) hS (by omega) h) rfl (by omega) (by exact Nat.le_of_ble_eq_true rfl) (by omega) (by omega) (fun _ _ _ _ _ _ q => q.elim) ?_
  rintro v sh' M' L' R' n' ⟨rfl, rfl, rfl, rfl, rfl, rfl⟩
  refine wx_goto (tgt := 18) dL_pull_7 (by decide) ?_
  refine wx_iconst (v := 0) dL_pull_18 (by decide) ?_
  refine wx_iret dL_pull_19 (by omega) (by omega) ?_
  exact ⟨rfl, rfl, rfl, rfl, rfl, rfl⟩
theorem w_pull_x2 {d : Nat} {X : Nat × (Nat → Int32)} {sh : px_Sh} {M : px_M} {L : px_L} {R : px_R} {n : Nat} {p1 : Int32} {p2 : Int32} {p3 : Int32} (hS : SR sh R) (hd : 8 ≤ d) (h : f_X11_pull M p1 p2 p3 = some (.inr 2)) : MXW yL_pull cL_pull 5 (some .int) [(0, 7, 10, 24), (0, 7, 14, 13)] d 1 6 X [.ref 0, .int p1, .int p2, .int p3] sh M L R n (px_wx 1 sh M L R n) := by
  refine MXW.of (by decide +kernel) (by exact Nat.le_of_ble_eq_true rfl) ?_
  refine wx_aload_n dL_pull_0 rfl ?_
  refine wx_iload_n dL_pull_1 rfl ?_
  refine wx_iload_n dL_pull_2 rfl ?_
  refine wx_iload_n dL_pull_3 rfl ?_
  refine wx_tryV dL_pull_4 wl_pull my_X11_pull iv_X11_pull (sc_0 hS) (by decide) (x_X11_pull (d := d - 1) hS (by omega) h) rfl (by omega) (by exact Nat.le_of_ble_eq_true rfl) (by omega) (by omega) ?_ (fun _ _ _ _ _ _ q => q.elim)
  rintro E sh' M' L' R' n' ⟨rfl, rfl, rfl, rfl, rfl, hn'⟩
  exact ⟨1, ⟨[], _, _, rfl, px_0e, by decide, by decide, by decide, cx_24, ca_IOOBE, (Or.inr ⟨4, 1, dL_pull_10, by decide, dL_pull_12, by decide, dL_pull_13⟩)⟩, rfl, rfl, rfl, rfl, rfl, hn'⟩
theorem w_pull_x0 {d : Nat} {X : Nat × (Nat → Int32)} {sh : px_Sh} {M : px_M} {L : px_L} {R : px_R} {n : Nat} {p1 : Int32} {p2 : Int32} {p3 : Int32} (hS : SR sh R) (hd : 8 ≤ d) (h : f_X11_pull M p1 p2 p3 = some (.inr 0)) : MXW yL_pull cL_pull 5 (some .int) [(0, 7, 10, 24), (0, 7, 14, 13)] d 1 6 X [.ref 0, .int p1, .int p2, .int p3] sh M L R n (px_wx 2 sh M L R n) := by
  refine MXW.of (by decide +kernel) (by exact Nat.le_of_ble_eq_true rfl) ?_
  refine wx_aload_n dL_pull_0 rfl ?_
  refine wx_iload_n dL_pull_1 rfl ?_
  refine wx_iload_n dL_pull_2 rfl ?_
  refine wx_iload_n dL_pull_3 rfl ?_
  refine wx_tryV dL_pull_4 wl_pull my_X11_pull iv_X11_pull (sc_0 hS) (by decide) (x_X11_pull (d := d - 1) hS (by omega) h) rfl (by omega) (by exact Nat.le_of_ble_eq_true rfl) (by omega) (by omega) ?_ (fun _ _ _ _ _ _ q => q.elim)
  rintro E sh' M' L' R' n' ⟨rfl, rfl, rfl, rfl, rfl, hn'⟩
  exact ⟨2, ⟨[_], _, _, rfl, (fun z hz => by
      simp only [List.mem_cons, List.not_mem_nil, or_false] at hz
      rcases hz with rfl
      · exact ⟨by decide, "java/lang/IndexOutOfBoundsException", by decide, by decide, cx_24⟩), by decide, by decide, by decide, cx_13, ca_IAE, (Or.inr ⟨4, 2, dL_pull_14, by decide, dL_pull_16, by decide, dL_pull_17⟩)⟩, rfl, rfl, rfl, rfl, rfl, hn'⟩
theorem w_push {d : Nat} {X : Nat × (Nat → Int32)} {sh : px_Sh} {M : px_M} {L : px_L} {R : px_R} {n : Nat} {p1 : Int32} {p2 : Int32} {e : Int32} (hS : SR sh R) (hd : 8 ≤ d) (h : f_X11_push sh M R p1 p2 = some (.inl e)) : MXW yL_push cL_push 5 (some .int) [(0, 10, 13, 13)] d 0 0 X [.ref 0, .int p1, .int p2, .ref 219] sh M L R n (px_pu (some (.int 0)) sh M (px_u L 219 0 (e : Int32).toInt64) R n) := by
  refine MXW.of (by decide +kernel) (by exact Nat.le_of_ble_eq_true rfl) ?_
  refine wx_aload_n dL_push_0 rfl ?_
  refine wx_iconst (v := 0) dL_push_1 (by decide) ?_
  refine wx_aload_n dL_push_2 rfl ?_
  refine wx_iload_n dL_push_3 rfl ?_
  refine wx_iload_n dL_push_4 rfl ?_
  refine wx_tryV dL_push_5 wl_push my_X11_push iv_X11_push (sc_0 hS) (by decide) (s_X11_push (d := d - 1) hS (by omega) h) rfl (by omega) (by exact Nat.le_of_ble_eq_true rfl) (by omega) (by omega) (fun _ _ _ _ _ _ q => q.elim) ?_
  rintro v sh' M' L' R' n' ⟨rfl, rfl, rfl, rfl, rfl, rfl⟩
  refine wx_i2l dL_push_8 ?_
  refine wx_lastk (k := 0) dL_push_9 (sc_219 hS) rfl (by decide) (by decide) ?_
  refine wx_goto (tgt := 17) dL_push_10 (by decide) ?_
  refine wx_iconst (v := 0) dL_push_17 (by decide) ?_
  refine wx_iret dL_push_18 (by omega) (by omega) ?_
  exact ⟨rfl, rfl, rfl, rfl, rfl, rfl⟩
theorem w_push_x0 {d : Nat} {X : Nat × (Nat → Int32)} {sh : px_Sh} {M : px_M} {L : px_L} {R : px_R} {n : Nat} {p1 : Int32} {p2 : Int32} (hS : SR sh R) (hd : 8 ≤ d) (h : f_X11_push sh M R p1 p2 = some (.inr 0)) : MXW yL_push cL_push 5 (some .int) [(0, 10, 13, 13)] d 1 6 X [.ref 0, .int p1, .int p2, .ref 219] sh M L R n (px_wx 1 sh M L R n) := by
  refine MXW.of (by decide +kernel) (by exact Nat.le_of_ble_eq_true rfl) ?_
  refine wx_aload_n dL_push_0 rfl ?_
  refine wx_iconst (v := 0) dL_push_1 (by decide) ?_
  refine wx_aload_n dL_push_2 rfl ?_
  refine wx_iload_n dL_push_3 rfl ?_
  refine wx_iload_n dL_push_4 rfl ?_
  refine wx_tryV dL_push_5 wl_push my_X11_push iv_X11_push (sc_0 hS) (by decide) (x_X11_push (d := d - 1) hS (by omega) h) rfl (by omega) (by exact Nat.le_of_ble_eq_true rfl) (by omega) (by omega) ?_ (fun _ _ _ _ _ _ q => q.elim)
  rintro E sh' M' L' R' n' ⟨rfl, rfl, rfl, rfl, rfl, hn'⟩
  exact ⟨1, ⟨[], _, _, rfl, px_0e, by decide, by decide, by decide, cx_13, ca_IAE, (Or.inr ⟨4, 1, dL_push_13, by decide, dL_push_15, by decide, dL_push_16⟩)⟩, rfl, rfl, rfl, rfl, rfl, hn'⟩
theorem w_rules {d : Nat} {X : Nat × (Nat → Int32)} {sh : px_Sh} {M : px_M} {L : px_L} {R : px_R} {n : Nat} {p1 : Int32} {e : Int32 × px_M × px_R} (hS : SR sh R) (hd : 80 ≤ d) (h : f_X11_rules sh M R p1 = some (.inl e)) : MXW yL_rules cL_rules 4 (some .int) [(0, 9, 12, 13)] d 0 0 X [.ref 0, .int p1, .ref 219] sh M L R n (px_ps (some (.int 0)) sh e.2.1 (px_u L 219 0 (e.1 : Int32).toInt64) e.2.2 n) := by
  refine MXW.of (by decide +kernel) (by exact Nat.le_of_ble_eq_true rfl) ?_
  refine wx_aload_n dL_rules_0 rfl ?_
  refine wx_iconst (v := 0) dL_rules_1 (by decide) ?_
  refine wx_aload_n dL_rules_2 rfl ?_
  refine wx_iload_n dL_rules_3 rfl ?_
  refine wx_tryV dL_rules_4 wl_rules my_X11_rules iv_X11_rules (sc_0 hS) (by decide) (s_X11_rules (d := d - 1) hS (by omega) h) rfl (by omega) (by exact Nat.le_of_ble_eq_true rfl) (by omega) (by omega) (fun _ _ _ _ _ _ q => q.elim) ?_
  rintro v sh' M' L' R' n' ⟨⟨rfl, rfl, rfl, rfl, rfl, rfl⟩, hS⟩
  refine wx_i2l dL_rules_7 ?_
  refine wx_lastk (k := 0) dL_rules_8 (sc_219 hS) rfl (by decide) (by decide) ?_
  refine wx_goto (tgt := 15) dL_rules_9 (by decide) ?_
  refine wx_iconst (v := 0) dL_rules_15 (by decide) ?_
  refine wx_iret dL_rules_16 (by omega) (by omega) ?_
  exact ⟨⟨rfl, rfl, rfl, rfl, rfl, rfl⟩, hS⟩
theorem w_rules_x0 {d : Nat} {X : Nat × (Nat → Int32)} {sh : px_Sh} {M : px_M} {L : px_L} {R : px_R} {n : Nat} {p1 : Int32} (hS : SR sh R) (hd : 80 ≤ d) (h : f_X11_rules sh M R p1 = some (.inr 0)) : MXW yL_rules cL_rules 4 (some .int) [(0, 9, 12, 13)] d 1 6 X [.ref 0, .int p1, .ref 219] sh M L R n (px_wx 1 sh M L R n) := by
  refine MXW.of (by decide +kernel) (by exact Nat.le_of_ble_eq_true rfl) ?_
  refine wx_aload_n dL_rules_0 rfl ?_
  refine wx_iconst (v := 0) dL_rules_1 (by decide) ?_
  refine wx_aload_n dL_rules_2 rfl ?_
  refine wx_iload_n dL_rules_3 rfl ?_
  refine wx_tryV dL_rules_4 wl_rules my_X11_rules iv_X11_rules (sc_0 hS) (by decide) (x_X11_rules (d := d - 1) hS (by omega) h) rfl (by omega) (by exact Nat.le_of_ble_eq_true rfl) (by omega) (by omega) ?_ (fun _ _ _ _ _ _ q => q.elim)
  rintro E sh' M' L' R' n' ⟨rfl, rfl, rfl, rfl, rfl, hn'⟩
  exact ⟨1, ⟨[], _, _, rfl, px_0e, by decide, by decide, by decide, cx_13, ca_IAE, (Or.inl ⟨3, 1, dL_rules_12, by decide, dL_rules_13, by decide, dL_rules_14⟩)⟩, rfl, rfl, rfl, rfl, rfl, hn'⟩
theorem w_safe {d : Nat} {X : Nat × (Nat → Int32)} {sh : px_Sh} {M : px_M} {L : px_L} {R : px_R} {n : Nat} {p1 : Int32} {e : Int32 × px_M} (hS : SR sh R) (hd : 8 ≤ d) (h : f_X11_safe M p1 = some (.inl e)) : MXW yL_safe cL_safe 4 (some .int) [(0, 9, 12, 19)] d 0 0 X [.ref 0, .int p1, .ref 219] sh M L R n (px_pu (some (.int 0)) sh e.2 (px_u L 219 0 (e.1 : Int32).toInt64) R n) := by
  refine MXW.of (by decide +kernel) (by exact Nat.le_of_ble_eq_true rfl) ?_
  refine wx_aload_n dL_safe_0 rfl ?_
  refine wx_iconst (v := 0) dL_safe_1 (by decide) ?_
  refine wx_aload_n dL_safe_2 rfl ?_
  refine wx_iload_n dL_safe_3 rfl ?_
  refine wx_tryV dL_safe_4 wl_safe my_X11_safe iv_X11_safe (sc_0 hS) (by decide) (s_X11_safe (d := d - 1) hS (by omega) h) rfl (by omega) (by exact Nat.le_of_ble_eq_true rfl) (by omega) (by omega) (fun _ _ _ _ _ _ q => q.elim) ?_
  rintro v sh' M' L' R' n' ⟨rfl, rfl, rfl, rfl, rfl, rfl⟩
  refine wx_i2l dL_safe_7 ?_
  refine wx_lastk (k := 0) dL_safe_8 (sc_219 hS) rfl (by decide) (by decide) ?_
  refine wx_goto (tgt := 15) dL_safe_9 (by decide) ?_
  refine wx_iconst (v := 0) dL_safe_15 (by decide) ?_
  refine wx_iret dL_safe_16 (by omega) (by omega) ?_
  exact ⟨rfl, rfl, rfl, rfl, rfl, rfl⟩
theorem w_safe_x1 {d : Nat} {X : Nat × (Nat → Int32)} {sh : px_Sh} {M : px_M} {L : px_L} {R : px_R} {n : Nat} {p1 : Int32} (hS : SR sh R) (hd : 8 ≤ d) (h : f_X11_safe M p1 = some (.inr 1)) : MXW yL_safe cL_safe 4 (some .int) [(0, 9, 12, 19)] d 1 6 X [.ref 0, .int p1, .ref 219] sh M L R n (px_wx 1 sh M L R n) := by
  refine MXW.of (by decide +kernel) (by exact Nat.le_of_ble_eq_true rfl) ?_
  refine wx_aload_n dL_safe_0 rfl ?_
  refine wx_iconst (v := 0) dL_safe_1 (by decide) ?_
  refine wx_aload_n dL_safe_2 rfl ?_
  refine wx_iload_n dL_safe_3 rfl ?_
  refine wx_tryV dL_safe_4 wl_safe my_X11_safe iv_X11_safe (sc_0 hS) (by decide) (x_X11_safe (d := d - 1) hS (by omega) h) rfl (by omega) (by exact Nat.le_of_ble_eq_true rfl) (by omega) (by omega) ?_ (fun _ _ _ _ _ _ q => q.elim)
  rintro E sh' M' L' R' n' ⟨rfl, rfl, rfl, rfl, rfl, hn'⟩
  exact ⟨1, ⟨[], _, _, rfl, px_0e, by decide, by decide, by decide, cx_19, ca_ISE, (Or.inl ⟨3, 1, dL_safe_12, by decide, dL_safe_13, by decide, dL_safe_14⟩)⟩, rfl, rfl, rfl, rfl, rfl, hn'⟩
theorem w_sheet {d : Nat} {X : Nat × (Nat → Int32)} {sh : px_Sh} {M : px_M} {L : px_L} {R : px_R} {n : Nat} {p1 : Int32} {p2 : Int32} {p3 : Int32} {e : Int32 × px_M} (hS : SR sh R) (hd : 8 ≤ d) (h : f_X11_sheet M p1 p2 p3 = some (.inl e)) : MXW yL_sheet cL_sheet 6 (some .int) [(0, 12, 15, 13)] d 0 0 X [.ref 0, .int p1, .int p2, .int p3, .ref 219] sh M L R n (px_pu (some (.int 0)) sh e.2 (px_u L 219 0 (e.1 : Int32).toInt64) R n) := by
  refine MXW.of (by decide +kernel) (by exact Nat.le_of_ble_eq_true rfl) ?_
  refine wx_aload dL_sheet_0 rfl ?_
  refine wx_iconst (v := 0) dL_sheet_2 (by decide) ?_
  refine wx_aload_n dL_sheet_3 rfl ?_
  refine wx_iload_n dL_sheet_4 rfl ?_
  refine wx_iload_n dL_sheet_5 rfl ?_
  refine wx_iload_n dL_sheet_6 rfl ?_
  refine wx_tryV dL_sheet_7 wl_sheet my_X11_sheet iv_X11_sheet (sc_0 hS) (by decide) (s_X11_sheet (d := d - 1) hS (by omega) h) rfl (by omega) (by exact Nat.le_of_ble_eq_true rfl) (by omega) (by omega) (fun _ _ _ _ _ _ q => q.elim) ?_
  rintro v sh' M' L' R' n' ⟨rfl, rfl, rfl, rfl, rfl, rfl⟩
  refine wx_i2l dL_sheet_10 ?_
  refine wx_lastk (k := 0) dL_sheet_11 (sc_219 hS) rfl (by decide) (by decide) ?_
  refine wx_goto (tgt := 19) dL_sheet_12 (by decide) ?_
  refine wx_iconst (v := 0) dL_sheet_19 (by decide) ?_
  refine wx_iret dL_sheet_20 (by omega) (by omega) ?_
  exact ⟨rfl, rfl, rfl, rfl, rfl, rfl⟩
theorem w_sheet_x0 {d : Nat} {X : Nat × (Nat → Int32)} {sh : px_Sh} {M : px_M} {L : px_L} {R : px_R} {n : Nat} {p1 : Int32} {p2 : Int32} {p3 : Int32} (hS : SR sh R) (hd : 8 ≤ d) (h : f_X11_sheet M p1 p2 p3 = some (.inr 0)) : MXW yL_sheet cL_sheet 6 (some .int) [(0, 12, 15, 13)] d 1 6 X [.ref 0, .int p1, .int p2, .int p3, .ref 219] sh M L R n (px_wx 1 sh M L R n) := by
  refine MXW.of (by decide +kernel) (by exact Nat.le_of_ble_eq_true rfl) ?_
  refine wx_aload dL_sheet_0 rfl ?_
  refine wx_iconst (v := 0) dL_sheet_2 (by decide) ?_
  refine wx_aload_n dL_sheet_3 rfl ?_
  refine wx_iload_n dL_sheet_4 rfl ?_
  refine wx_iload_n dL_sheet_5 rfl ?_
  refine wx_iload_n dL_sheet_6 rfl ?_
  refine wx_tryV dL_sheet_7 wl_sheet my_X11_sheet iv_X11_sheet (sc_0 hS) (by decide) (x_X11_sheet (d := d - 1) hS (by omega) h) rfl (by omega) (by exact Nat.le_of_ble_eq_true rfl) (by omega) (by omega) ?_ (fun _ _ _ _ _ _ q => q.elim)
  rintro E sh' M' L' R' n' ⟨rfl, rfl, rfl, rfl, rfl, hn'⟩
  exact ⟨1, ⟨[], _, _, rfl, px_0e, by decide, by decide, by decide, cx_13, ca_IAE, (Or.inr ⟨5, 1, dL_sheet_15, by decide, dL_sheet_17, by decide, dL_sheet_18⟩)⟩, rfl, rfl, rfl, rfl, rfl, hn'⟩
theorem w_shows {d : Nat} {X : Nat × (Nat → Int32)} {sh : px_Sh} {M : px_M} {L : px_L} {R : px_R} {n : Nat} {p1 : Int32} {e : Int32 × px_M × px_L} (hS : SR sh R) (hd : 8 ≤ d) (h : f_X11_shows sh M L R p1 = some (.inl e)) : MXW yL_shows cL_shows 4 (some .int) [(0, 9, 12, 13)] d 0 0 X [.ref 0, .int p1, .ref 219] sh M L R n (px_pu (some (.int 0)) sh e.2.1 (px_u e.2.2 219 0 (e.1 : Int32).toInt64) R n) := by
  refine MXW.of (by decide +kernel) (by exact Nat.le_of_ble_eq_true rfl) ?_
  refine wx_aload_n dL_shows_0 rfl ?_
  refine wx_iconst (v := 0) dL_shows_1 (by decide) ?_
  refine wx_aload_n dL_shows_2 rfl ?_
  refine wx_iload_n dL_shows_3 rfl ?_
  refine wx_tryV dL_shows_4 wl_shows my_X11_shows iv_X11_shows (sc_0 hS) (by decide) (s_X11_shows (d := d - 1) hS (by omega) h) rfl (by omega) (by exact Nat.le_of_ble_eq_true rfl) (by omega) (by omega) (fun _ _ _ _ _ _ q => q.elim) ?_
  rintro v sh' M' L' R' n' ⟨rfl, rfl, rfl, rfl, rfl, rfl⟩
  refine wx_i2l dL_shows_7 ?_
  refine wx_lastk (k := 0) dL_shows_8 (sc_219 hS) rfl (by decide) (by decide) ?_
  refine wx_goto (tgt := 15) dL_shows_9 (by decide) ?_
  refine wx_iconst (v := 0) dL_shows_15 (by decide) ?_
  refine wx_iret dL_shows_16 (by omega) (by omega) ?_
  exact ⟨rfl, rfl, rfl, rfl, rfl, rfl⟩
theorem w_shows_x0 {d : Nat} {X : Nat × (Nat → Int32)} {sh : px_Sh} {M : px_M} {L : px_L} {R : px_R} {n : Nat} {p1 : Int32} (hS : SR sh R) (hd : 8 ≤ d) (h : f_X11_shows sh M L R p1 = some (.inr 0)) : MXW yL_shows cL_shows 4 (some .int) [(0, 9, 12, 13)] d 1 6 X [.ref 0, .int p1, .ref 219] sh M L R n (px_wx 1 sh M L R n) := by
  refine MXW.of (by decide +kernel) (by exact Nat.le_of_ble_eq_true rfl) ?_
  refine wx_aload_n dL_shows_0 rfl ?_
  refine wx_iconst (v := 0) dL_shows_1 (by decide) ?_
  refine wx_aload_n dL_shows_2 rfl ?_
  refine wx_iload_n dL_shows_3 rfl ?_
  refine wx_tryV dL_shows_4 wl_shows my_X11_shows iv_X11_shows (sc_0 hS) (by decide) (x_X11_shows (d := d - 1) hS (by omega) h) rfl (by omega) (by exact Nat.le_of_ble_eq_true rfl) (by omega) (by omega) ?_ (fun _ _ _ _ _ _ q => q.elim)
  rintro E sh' M' L' R' n' ⟨rfl, rfl, rfl, rfl, rfl, hn'⟩
  exact ⟨1, ⟨[], _, _, rfl, px_0e, by decide, by decide, by decide, cx_13, ca_IAE, (Or.inl ⟨3, 1, dL_shows_12, by decide, dL_shows_13, by decide, dL_shows_14⟩)⟩, rfl, rfl, rfl, rfl, rfl, hn'⟩
theorem w_sight {d : Nat} {X : Nat × (Nat → Int32)} {sh : px_Sh} {M : px_M} {L : px_L} {R : px_R} {n : Nat} {p1 : Int32} {p2 : Int32} {p3 : Int32} {e : Int32 × px_M} (hS : SR sh R) (hd : 8 ≤ d) (h : f_X11_sight M p1 p2 p3 = some (.inl e)) : MXW yL_sight cL_sight 6 (some .int) [(0, 12, 15, 13)] d 0 0 X [.ref 0, .int p1, .int p2, .int p3, .ref 219] sh M L R n (px_pu (some (.int 0)) sh e.2 (px_u L 219 0 (e.1 : Int32).toInt64) R n) := by
  refine MXW.of (by decide +kernel) (by exact Nat.le_of_ble_eq_true rfl) ?_
  refine wx_aload dL_sight_0 rfl ?_
  refine wx_iconst (v := 0) dL_sight_2 (by decide) ?_
  refine wx_aload_n dL_sight_3 rfl ?_
  refine wx_iload_n dL_sight_4 rfl ?_
  refine wx_iload_n dL_sight_5 rfl ?_
  refine wx_iload_n dL_sight_6 rfl ?_
  refine wx_tryV dL_sight_7 wl_sight my_X11_sight iv_X11_sight (sc_0 hS) (by decide) (s_X11_sight (d := d - 1) hS (by omega) h) rfl (by omega) (by exact Nat.le_of_ble_eq_true rfl) (by omega) (by omega) (fun _ _ _ _ _ _ q => q.elim) ?_
  rintro v sh' M' L' R' n' ⟨rfl, rfl, rfl, rfl, rfl, rfl⟩
  refine wx_i2l dL_sight_10 ?_
  refine wx_lastk (k := 0) dL_sight_11 (sc_219 hS) rfl (by decide) (by decide) ?_
  refine wx_goto (tgt := 19) dL_sight_12 (by decide) ?_
  refine wx_iconst (v := 0) dL_sight_19 (by decide) ?_
  refine wx_iret dL_sight_20 (by omega) (by omega) ?_
  exact ⟨rfl, rfl, rfl, rfl, rfl, rfl⟩
theorem w_sight_x0 {d : Nat} {X : Nat × (Nat → Int32)} {sh : px_Sh} {M : px_M} {L : px_L} {R : px_R} {n : Nat} {p1 : Int32} {p2 : Int32} {p3 : Int32} (hS : SR sh R) (hd : 8 ≤ d) (h : f_X11_sight M p1 p2 p3 = some (.inr 0)) : MXW yL_sight cL_sight 6 (some .int) [(0, 12, 15, 13)] d 1 6 X [.ref 0, .int p1, .int p2, .int p3, .ref 219] sh M L R n (px_wx 1 sh M L R n) := by
  refine MXW.of (by decide +kernel) (by exact Nat.le_of_ble_eq_true rfl) ?_
  refine wx_aload dL_sight_0 rfl ?_
  refine wx_iconst (v := 0) dL_sight_2 (by decide) ?_
  refine wx_aload_n dL_sight_3 rfl ?_
  refine wx_iload_n dL_sight_4 rfl ?_
  refine wx_iload_n dL_sight_5 rfl ?_
  refine wx_iload_n dL_sight_6 rfl ?_
  refine wx_tryV dL_sight_7 wl_sight my_X11_sight iv_X11_sight (sc_0 hS) (by decide) (x_X11_sight (d := d - 1) hS (by omega) h) rfl (by omega) (by exact Nat.le_of_ble_eq_true rfl) (by omega) (by omega) ?_ (fun _ _ _ _ _ _ q => q.elim)
  rintro E sh' M' L' R' n' ⟨rfl, rfl, rfl, rfl, rfl, hn'⟩
  exact ⟨1, ⟨[], _, _, rfl, px_0e, by decide, by decide, by decide, cx_13, ca_IAE, (Or.inr ⟨5, 1, dL_sight_15, by decide, dL_sight_17, by decide, dL_sight_18⟩)⟩, rfl, rfl, rfl, rfl, rfl, hn'⟩
theorem w_slack {d : Nat} {X : Nat × (Nat → Int32)} {sh : px_Sh} {M : px_M} {L : px_L} {R : px_R} {n : Nat} {p1 : Int32} {e : Int32 × px_M × px_L × px_R} (hS : SR sh R) (hd : 8 ≤ d) (h : f_X11_slack sh M L R p1 = some (.inl e)) : MXW yL_slack cL_slack 4 (some .int) [(0, 16, 19, 24)] d 0 0 X [.ref 0, .int p1, .ref 219] sh M L R n (px_ps (some (.int 0)) sh e.2.1 (px_u e.2.2.1 219 0 (if e.1 = 0 then 0 else 1)) e.2.2.2 n) := by
  refine MXW.of (by decide +kernel) (by exact Nat.le_of_ble_eq_true rfl) ?_
  refine wx_aload_n dL_slack_0 rfl ?_
  refine wx_iconst (v := 0) dL_slack_1 (by decide) ?_
  refine wx_aload_n dL_slack_2 rfl ?_
  refine wx_iload_n dL_slack_3 rfl ?_
  refine wx_tryV dL_slack_4 wl_slack my_X11_slack iv_X11_slack (sc_0 hS) (by decide) (s_X11_slack (d := d - 1) hS (by omega) h) rfl (by omega) (by exact Nat.le_of_ble_eq_true rfl) (by omega) (by omega) (fun _ _ _ _ _ _ q => q.elim) ?_
  rintro v sh' M' L' R' n' ⟨⟨rfl, rfl, rfl, rfl, rfl, rfl⟩, hS⟩
  refine wx_if_eq (tgt := 14) dL_slack_7 (by decide) (fun cz => ?_) (fun cz => ?_)
  · refine wx_lconst (v := 0) dL_slack_14 (by decide) ?_
    refine wx_lastk (k := 0) dL_slack_15 (sc_219 hS) rfl (by decide) (by decide) ?_
    refine wx_goto (tgt := 22) dL_slack_16 (by decide) ?_
    refine wx_iconst (v := 0) dL_slack_22 (by decide) ?_
    refine wx_iret dL_slack_23 (by omega) (by omega) ?_
    exact ⟨⟨rfl, rfl, rfl, by rw [if_pos cz], rfl, rfl⟩, hS⟩
  · refine wx_lconst (v := 1) dL_slack_10 (by decide) ?_
    refine wx_goto (tgt := 15) dL_slack_11 (by decide) ?_
    refine wx_lastk (k := 0) dL_slack_15 (sc_219 hS) rfl (by decide) (by decide) ?_
    refine wx_goto (tgt := 22) dL_slack_16 (by decide) ?_
    refine wx_iconst (v := 0) dL_slack_22 (by decide) ?_
    refine wx_iret dL_slack_23 (by omega) (by omega) ?_
    exact ⟨⟨rfl, rfl, rfl, by rw [if_neg cz], rfl, rfl⟩, hS⟩
theorem w_slack_x2 {d : Nat} {X : Nat × (Nat → Int32)} {sh : px_Sh} {M : px_M} {L : px_L} {R : px_R} {n : Nat} {p1 : Int32} (hS : SR sh R) (hd : 8 ≤ d) (h : f_X11_slack sh M L R p1 = some (.inr 2)) : MXW yL_slack cL_slack 4 (some .int) [(0, 16, 19, 24)] d 1 6 X [.ref 0, .int p1, .ref 219] sh M L R n (px_wx 1 sh M L R n) := by
  refine MXW.of (by decide +kernel) (by exact Nat.le_of_ble_eq_true rfl) ?_
  refine wx_aload_n dL_slack_0 rfl ?_
  refine wx_iconst (v := 0) dL_slack_1 (by decide) ?_
  refine wx_aload_n dL_slack_2 rfl ?_
  refine wx_iload_n dL_slack_3 rfl ?_
  refine wx_tryV dL_slack_4 wl_slack my_X11_slack iv_X11_slack (sc_0 hS) (by decide) (x_X11_slack (d := d - 1) hS (by omega) h) rfl (by omega) (by exact Nat.le_of_ble_eq_true rfl) (by omega) (by omega) ?_ (fun _ _ _ _ _ _ q => q.elim)
  rintro E sh' M' L' R' n' ⟨rfl, rfl, rfl, rfl, rfl, hn'⟩
  exact ⟨1, ⟨[], _, _, rfl, px_0e, by decide, by decide, by decide, cx_24, ca_IOOBE, (Or.inl ⟨3, 1, dL_slack_19, by decide, dL_slack_20, by decide, dL_slack_21⟩)⟩, rfl, rfl, rfl, rfl, rfl, hn'⟩
theorem w_string {d : Nat} {X : Nat × (Nat → Int32)} {sh : px_Sh} {M : px_M} {L : px_L} {R : px_R} {n : Nat} {p1 : Int32} {p2 : Int32} {e : Int32 × px_M} (hS : SR sh R) (hd : 8 ≤ d) (h : f_X11_string M p1 p2 = some (.inl e)) : MXW yL_string cL_string 5 (some .int) [(0, 10, 13, 24), (0, 10, 17, 13)] d 0 0 X [.ref 0, .int p1, .int p2, .ref 219] sh M L R n (px_pu (some (.int 0)) sh e.2 (px_u L 219 0 (e.1 : Int32).toInt64) R n) := by
  refine MXW.of (by decide +kernel) (by exact Nat.le_of_ble_eq_true rfl) ?_
  refine wx_aload_n dL_string_0 rfl ?_
  refine wx_iconst (v := 0) dL_string_1 (by decide) ?_
  refine wx_aload_n dL_string_2 rfl ?_
  refine wx_iload_n dL_string_3 rfl ?_
  refine wx_iload_n dL_string_4 rfl ?_
  refine wx_tryV dL_string_5 wl_string my_X11_string iv_X11_string (sc_0 hS) (by decide) (s_X11_string (d := d - 1) hS (by omega) h) rfl (by omega) (by exact Nat.le_of_ble_eq_true rfl) (by omega) (by omega) (fun _ _ _ _ _ _ q => q.elim) ?_
  rintro v sh' M' L' R' n' ⟨rfl, rfl, rfl, rfl, rfl, rfl⟩
  refine wx_i2l dL_string_8 ?_
  refine wx_lastk (k := 0) dL_string_9 (sc_219 hS) rfl (by decide) (by decide) ?_
  refine wx_goto (tgt := 21) dL_string_10 (by decide) ?_
  refine wx_iconst (v := 0) dL_string_21 (by decide) ?_
  refine wx_iret dL_string_22 (by omega) (by omega) ?_
  exact ⟨rfl, rfl, rfl, rfl, rfl, rfl⟩
theorem w_string_x2 {d : Nat} {X : Nat × (Nat → Int32)} {sh : px_Sh} {M : px_M} {L : px_L} {R : px_R} {n : Nat} {p1 : Int32} {p2 : Int32} (hS : SR sh R) (hd : 8 ≤ d) (h : f_X11_string M p1 p2 = some (.inr 2)) : MXW yL_string cL_string 5 (some .int) [(0, 10, 13, 24), (0, 10, 17, 13)] d 1 6 X [.ref 0, .int p1, .int p2, .ref 219] sh M L R n (px_wx 1 sh M L R n) := by
  refine MXW.of (by decide +kernel) (by exact Nat.le_of_ble_eq_true rfl) ?_
  refine wx_aload_n dL_string_0 rfl ?_
  refine wx_iconst (v := 0) dL_string_1 (by decide) ?_
  refine wx_aload_n dL_string_2 rfl ?_
  refine wx_iload_n dL_string_3 rfl ?_
  refine wx_iload_n dL_string_4 rfl ?_
  refine wx_tryV dL_string_5 wl_string my_X11_string iv_X11_string (sc_0 hS) (by decide) (x_X11_string (d := d - 1) hS (by omega) h) rfl (by omega) (by exact Nat.le_of_ble_eq_true rfl) (by omega) (by omega) ?_ (fun _ _ _ _ _ _ q => q.elim)
  rintro E sh' M' L' R' n' ⟨rfl, rfl, rfl, rfl, rfl, hn'⟩
  exact ⟨1, ⟨[], _, _, rfl, px_0e, by decide, by decide, by decide, cx_24, ca_IOOBE, (Or.inr ⟨4, 1, dL_string_13, by decide, dL_string_15, by decide, dL_string_16⟩)⟩, rfl, rfl, rfl, rfl, rfl, hn'⟩
theorem w_string_x0 {d : Nat} {X : Nat × (Nat → Int32)} {sh : px_Sh} {M : px_M} {L : px_L} {R : px_R} {n : Nat} {p1 : Int32} {p2 : Int32} (hS : SR sh R) (hd : 8 ≤ d) (h : f_X11_string M p1 p2 = some (.inr 0)) : MXW yL_string cL_string 5 (some .int) [(0, 10, 13, 24), (0, 10, 17, 13)] d 1 6 X [.ref 0, .int p1, .int p2, .ref 219] sh M L R n (px_wx 2 sh M L R n) := by
  refine MXW.of (by decide +kernel) (by exact Nat.le_of_ble_eq_true rfl) ?_
  refine wx_aload_n dL_string_0 rfl ?_
  refine wx_iconst (v := 0) dL_string_1 (by decide) ?_
  refine wx_aload_n dL_string_2 rfl ?_
  refine wx_iload_n dL_string_3 rfl ?_
  refine wx_iload_n dL_string_4 rfl ?_
  refine wx_tryV dL_string_5 wl_string my_X11_string iv_X11_string (sc_0 hS) (by decide) (x_X11_string (d := d - 1) hS (by omega) h) rfl (by omega) (by exact Nat.le_of_ble_eq_true rfl) (by omega) (by omega) ?_ (fun _ _ _ _ _ _ q => q.elim)
  rintro E sh' M' L' R' n' ⟨rfl, rfl, rfl, rfl, rfl, hn'⟩
  exact ⟨2, ⟨[_], _, _, rfl, (fun z hz => by
      simp only [List.mem_cons, List.not_mem_nil, or_false] at hz
      rcases hz with rfl
      · exact ⟨by decide, "java/lang/IndexOutOfBoundsException", by decide, by decide, cx_24⟩), by decide, by decide, by decide, cx_13, ca_IAE, (Or.inr ⟨4, 2, dL_string_17, by decide, dL_string_19, by decide, dL_string_20⟩)⟩, rfl, rfl, rfl, rfl, rfl, hn'⟩
theorem w_strip {d : Nat} {X : Nat × (Nat → Int32)} {sh : px_Sh} {M : px_M} {L : px_L} {R : px_R} {n : Nat} {p1 : Int32} {p2 : Int32} {e : Int32 × px_M} (hS : SR sh R) (hd : 15 ≤ d) (h : f_X11_strip M p1 p2 = some (.inl e)) : MXW yL_strip cL_strip 5 (some .int) [(0, 10, 13, 13)] d 0 0 X [.ref 0, .int p1, .int p2, .ref 219] sh M L R n (px_pu (some (.int 0)) sh e.2 (px_u L 219 0 (e.1 : Int32).toInt64) R n) := by
  refine MXW.of (by decide +kernel) (by exact Nat.le_of_ble_eq_true rfl) ?_
  refine wx_aload_n dL_strip_0 rfl ?_
  refine wx_iconst (v := 0) dL_strip_1 (by decide) ?_
  refine wx_aload_n dL_strip_2 rfl ?_
  refine wx_iload_n dL_strip_3 rfl ?_
  refine wx_iload_n dL_strip_4 rfl ?_
  refine wx_tryV dL_strip_5 wl_strip my_X11_strip iv_X11_strip (sc_0 hS) (by decide) (s_X11_strip (d := d - 1) hS (by omega) h) rfl (by omega) (by exact Nat.le_of_ble_eq_true rfl) (by omega) (by omega) (fun _ _ _ _ _ _ q => q.elim) ?_
  rintro v sh' M' L' R' n' ⟨rfl, rfl, rfl, rfl, rfl, rfl⟩
  refine wx_i2l dL_strip_8 ?_
  refine wx_lastk (k := 0) dL_strip_9 (sc_219 hS) rfl (by decide) (by decide) ?_
  refine wx_goto (tgt := 17) dL_strip_10 (by decide) ?_
  refine wx_iconst (v := 0) dL_strip_17 (by decide) ?_
  refine wx_iret dL_strip_18 (by omega) (by omega) ?_
  exact ⟨rfl, rfl, rfl, rfl, rfl, rfl⟩
theorem w_strip_x0 {d : Nat} {X : Nat × (Nat → Int32)} {sh : px_Sh} {M : px_M} {L : px_L} {R : px_R} {n : Nat} {p1 : Int32} {p2 : Int32} (hS : SR sh R) (hd : 15 ≤ d) (h : f_X11_strip M p1 p2 = some (.inr 0)) : MXW yL_strip cL_strip 5 (some .int) [(0, 10, 13, 13)] d 1 6 X [.ref 0, .int p1, .int p2, .ref 219] sh M L R n (px_wx 1 sh M L R n) := by
  refine MXW.of (by decide +kernel) (by exact Nat.le_of_ble_eq_true rfl) ?_
  refine wx_aload_n dL_strip_0 rfl ?_
  refine wx_iconst (v := 0) dL_strip_1 (by decide) ?_
  refine wx_aload_n dL_strip_2 rfl ?_
  refine wx_iload_n dL_strip_3 rfl ?_
  refine wx_iload_n dL_strip_4 rfl ?_
  refine wx_tryV dL_strip_5 wl_strip my_X11_strip iv_X11_strip (sc_0 hS) (by decide) (x_X11_strip (d := d - 1) hS (by omega) h) rfl (by omega) (by exact Nat.le_of_ble_eq_true rfl) (by omega) (by omega) ?_ (fun _ _ _ _ _ _ q => q.elim)
  rintro E sh' M' L' R' n' ⟨rfl, rfl, rfl, rfl, rfl, hn'⟩
  exact ⟨1, ⟨[], _, _, rfl, px_0e, by decide, by decide, by decide, cx_13, ca_IAE, (Or.inr ⟨4, 1, dL_strip_13, by decide, dL_strip_15, by decide, dL_strip_16⟩)⟩, rfl, rfl, rfl, rfl, rfl, hn'⟩
theorem w_stuck {d : Nat} {X : Nat × (Nat → Int32)} {sh : px_Sh} {M : px_M} {L : px_L} {R : px_R} {n : Nat} {p1 : Int32} {p2 : Int32} {e : Int32 × px_M} (hS : SR sh R) (hd : 8 ≤ d) (h : f_X11_stuck sh M R p1 p2 = some (.inl e)) : MXW yL_stuck cL_stuck 5 (some .int) [(0, 17, 20, 24)] d 0 0 X [.ref 0, .int p1, .int p2, .ref 219] sh M L R n (px_pu (some (.int 0)) sh e.2 (px_u L 219 0 (if e.1 = 0 then 0 else 1)) R n) := by
  refine MXW.of (by decide +kernel) (by exact Nat.le_of_ble_eq_true rfl) ?_
  refine wx_aload_n dL_stuck_0 rfl ?_
  refine wx_iconst (v := 0) dL_stuck_1 (by decide) ?_
  refine wx_aload_n dL_stuck_2 rfl ?_
  refine wx_iload_n dL_stuck_3 rfl ?_
  refine wx_iload_n dL_stuck_4 rfl ?_
  refine wx_tryV dL_stuck_5 wl_stuck my_X11_stuck iv_X11_stuck (sc_0 hS) (by decide) (s_X11_stuck (d := d - 1) hS (by omega) h) rfl (by omega) (by exact Nat.le_of_ble_eq_true rfl) (by omega) (by omega) (fun _ _ _ _ _ _ q => q.elim) ?_
  rintro v sh' M' L' R' n' ⟨rfl, rfl, rfl, rfl, rfl, rfl⟩
  refine wx_if_eq (tgt := 15) dL_stuck_8 (by decide) (fun cz => ?_) (fun cz => ?_)
  · refine wx_lconst (v := 0) dL_stuck_15 (by decide) ?_
    refine wx_lastk (k := 0) dL_stuck_16 (sc_219 hS) rfl (by decide) (by decide) ?_
    refine wx_goto (tgt := 24) dL_stuck_17 (by decide) ?_
    refine wx_iconst (v := 0) dL_stuck_24 (by decide) ?_
    refine wx_iret dL_stuck_25 (by omega) (by omega) ?_
    exact ⟨rfl, rfl, rfl, by rw [if_pos cz], rfl, rfl⟩
  · refine wx_lconst (v := 1) dL_stuck_11 (by decide) ?_
    refine wx_goto (tgt := 16) dL_stuck_12 (by decide) ?_
    refine wx_lastk (k := 0) dL_stuck_16 (sc_219 hS) rfl (by decide) (by decide) ?_
    refine wx_goto (tgt := 24) dL_stuck_17 (by decide) ?_
    refine wx_iconst (v := 0) dL_stuck_24 (by decide) ?_
    refine wx_iret dL_stuck_25 (by omega) (by omega) ?_
    exact ⟨rfl, rfl, rfl, by rw [if_neg cz], rfl, rfl⟩
theorem w_stuck_x2 {d : Nat} {X : Nat × (Nat → Int32)} {sh : px_Sh} {M : px_M} {L : px_L} {R : px_R} {n : Nat} {p1 : Int32} {p2 : Int32} (hS : SR sh R) (hd : 8 ≤ d) (h : f_X11_stuck sh M R p1 p2 = some (.inr 2)) : MXW yL_stuck cL_stuck 5 (some .int) [(0, 17, 20, 24)] d 1 6 X [.ref 0, .int p1, .int p2, .ref 219] sh M L R n (px_wx 1 sh M L R n) := by
  refine MXW.of (by decide +kernel) (by exact Nat.le_of_ble_eq_true rfl) ?_
  refine wx_aload_n dL_stuck_0 rfl ?_
  refine wx_iconst (v := 0) dL_stuck_1 (by decide) ?_
  refine wx_aload_n dL_stuck_2 rfl ?_
  refine wx_iload_n dL_stuck_3 rfl ?_
  refine wx_iload_n dL_stuck_4 rfl ?_
  refine wx_tryV dL_stuck_5 wl_stuck my_X11_stuck iv_X11_stuck (sc_0 hS) (by decide) (x_X11_stuck (d := d - 1) hS (by omega) h) rfl (by omega) (by exact Nat.le_of_ble_eq_true rfl) (by omega) (by omega) ?_ (fun _ _ _ _ _ _ q => q.elim)
  rintro E sh' M' L' R' n' ⟨rfl, rfl, rfl, rfl, rfl, hn'⟩
  exact ⟨1, ⟨[], _, _, rfl, px_0e, by decide, by decide, by decide, cx_24, ca_IOOBE, (Or.inr ⟨4, 1, dL_stuck_20, by decide, dL_stuck_22, by decide, dL_stuck_23⟩)⟩, rfl, rfl, rfl, rfl, rfl, hn'⟩
theorem w_taut {d : Nat} {X : Nat × (Nat → Int32)} {sh : px_Sh} {M : px_M} {L : px_L} {R : px_R} {n : Nat} {p1 : Int32} {e : Int32 × px_M × px_L × px_R} (hS : SR sh R) (hd : 8 ≤ d) (h : f_X11_taut sh M L R p1 = some (.inl e)) : MXW yL_taut cL_taut 4 (some .int) [(0, 16, 19, 24)] d 0 0 X [.ref 0, .int p1, .ref 219] sh M L R n (px_ps (some (.int 0)) sh e.2.1 (px_u e.2.2.1 219 0 (if e.1 = 0 then 0 else 1)) e.2.2.2 n) := by
  refine MXW.of (by decide +kernel) (by exact Nat.le_of_ble_eq_true rfl) ?_
  refine wx_aload_n dL_taut_0 rfl ?_
  refine wx_iconst (v := 0) dL_taut_1 (by decide) ?_
  refine wx_aload_n dL_taut_2 rfl ?_
  refine wx_iload_n dL_taut_3 rfl ?_
  refine wx_tryV dL_taut_4 wl_taut my_X11_taut iv_X11_taut (sc_0 hS) (by decide) (s_X11_taut (d := d - 1) hS (by omega) h) rfl (by omega) (by exact Nat.le_of_ble_eq_true rfl) (by omega) (by omega) (fun _ _ _ _ _ _ q => q.elim) ?_
  rintro v sh' M' L' R' n' ⟨⟨rfl, rfl, rfl, rfl, rfl, rfl⟩, hS⟩
  refine wx_if_eq (tgt := 14) dL_taut_7 (by decide) (fun cz => ?_) (fun cz => ?_)
  · refine wx_lconst (v := 0) dL_taut_14 (by decide) ?_
    refine wx_lastk (k := 0) dL_taut_15 (sc_219 hS) rfl (by decide) (by decide) ?_
    refine wx_goto (tgt := 22) dL_taut_16 (by decide) ?_
    refine wx_iconst (v := 0) dL_taut_22 (by decide) ?_
    refine wx_iret dL_taut_23 (by omega) (by omega) ?_
    exact ⟨⟨rfl, rfl, rfl, by rw [if_pos cz], rfl, rfl⟩, hS⟩
  · refine wx_lconst (v := 1) dL_taut_10 (by decide) ?_
    refine wx_goto (tgt := 15) dL_taut_11 (by decide) ?_
    refine wx_lastk (k := 0) dL_taut_15 (sc_219 hS) rfl (by decide) (by decide) ?_
    refine wx_goto (tgt := 22) dL_taut_16 (by decide) ?_
    refine wx_iconst (v := 0) dL_taut_22 (by decide) ?_
    refine wx_iret dL_taut_23 (by omega) (by omega) ?_
    exact ⟨⟨rfl, rfl, rfl, by rw [if_neg cz], rfl, rfl⟩, hS⟩
theorem w_taut_x2 {d : Nat} {X : Nat × (Nat → Int32)} {sh : px_Sh} {M : px_M} {L : px_L} {R : px_R} {n : Nat} {p1 : Int32} (hS : SR sh R) (hd : 8 ≤ d) (h : f_X11_taut sh M L R p1 = some (.inr 2)) : MXW yL_taut cL_taut 4 (some .int) [(0, 16, 19, 24)] d 1 6 X [.ref 0, .int p1, .ref 219] sh M L R n (px_wx 1 sh M L R n) := by
  refine MXW.of (by decide +kernel) (by exact Nat.le_of_ble_eq_true rfl) ?_
  refine wx_aload_n dL_taut_0 rfl ?_
  refine wx_iconst (v := 0) dL_taut_1 (by decide) ?_
  refine wx_aload_n dL_taut_2 rfl ?_
  refine wx_iload_n dL_taut_3 rfl ?_
  refine wx_tryV dL_taut_4 wl_taut my_X11_taut iv_X11_taut (sc_0 hS) (by decide) (x_X11_taut (d := d - 1) hS (by omega) h) rfl (by omega) (by exact Nat.le_of_ble_eq_true rfl) (by omega) (by omega) ?_ (fun _ _ _ _ _ _ q => q.elim)
  rintro E sh' M' L' R' n' ⟨rfl, rfl, rfl, rfl, rfl, hn'⟩
  exact ⟨1, ⟨[], _, _, rfl, px_0e, by decide, by decide, by decide, cx_24, ca_IOOBE, (Or.inl ⟨3, 1, dL_taut_19, by decide, dL_taut_20, by decide, dL_taut_21⟩)⟩, rfl, rfl, rfl, rfl, rfl, hn'⟩
theorem w_tear {d : Nat} {X : Nat × (Nat → Int32)} {sh : px_Sh} {M : px_M} {L : px_L} {R : px_R} {n : Nat} {p1 : Int32} {e : Int32 × px_M} (hS : SR sh R) (hd : 8 ≤ d) (h : f_X11_tear sh M R p1 = some (.inl e)) : MXW yL_tear cL_tear 4 (some .int) [(0, 16, 19, 44)] d 0 0 X [.ref 0, .int p1, .ref 219] sh M L R n (px_pu (some (.int 0)) sh e.2 (px_u L 219 0 (if e.1 = 0 then 0 else 1)) R n) := by
  refine MXW.of (by decide +kernel) (by exact Nat.le_of_ble_eq_true rfl) ?_
  refine wx_aload_n dL_tear_0 rfl ?_
  refine wx_iconst (v := 0) dL_tear_1 (by decide) ?_
  refine wx_aload_n dL_tear_2 rfl ?_
  refine wx_iload_n dL_tear_3 rfl ?_
  refine wx_tryV dL_tear_4 wl_tear my_X11_tear iv_X11_tear (sc_0 hS) (by decide) (s_X11_tear (d := d - 1) hS (by omega) h) rfl (by omega) (by exact Nat.le_of_ble_eq_true rfl) (by omega) (by omega) (fun _ _ _ _ _ _ q => q.elim) ?_
  rintro v sh' M' L' R' n' ⟨rfl, rfl, rfl, rfl, rfl, rfl⟩
  refine wx_if_eq (tgt := 14) dL_tear_7 (by decide) (fun cz => ?_) (fun cz => ?_)
  · refine wx_lconst (v := 0) dL_tear_14 (by decide) ?_
    refine wx_lastk (k := 0) dL_tear_15 (sc_219 hS) rfl (by decide) (by decide) ?_
    refine wx_goto (tgt := 22) dL_tear_16 (by decide) ?_
    refine wx_iconst (v := 0) dL_tear_22 (by decide) ?_
    refine wx_iret dL_tear_23 (by omega) (by omega) ?_
    exact ⟨rfl, rfl, rfl, by rw [if_pos cz], rfl, rfl⟩
  · refine wx_lconst (v := 1) dL_tear_10 (by decide) ?_
    refine wx_goto (tgt := 15) dL_tear_11 (by decide) ?_
    refine wx_lastk (k := 0) dL_tear_15 (sc_219 hS) rfl (by decide) (by decide) ?_
    refine wx_goto (tgt := 22) dL_tear_16 (by decide) ?_
    refine wx_iconst (v := 0) dL_tear_22 (by decide) ?_
    refine wx_iret dL_tear_23 (by omega) (by omega) ?_
    exact ⟨rfl, rfl, rfl, by rw [if_neg cz], rfl, rfl⟩
theorem w_tear_x3 {d : Nat} {X : Nat × (Nat → Int32)} {sh : px_Sh} {M : px_M} {L : px_L} {R : px_R} {n : Nat} {p1 : Int32} (hS : SR sh R) (hd : 8 ≤ d) (h : f_X11_tear sh M R p1 = some (.inr 3)) : MXW yL_tear cL_tear 4 (some .int) [(0, 16, 19, 44)] d 1 6 X [.ref 0, .int p1, .ref 219] sh M L R n (px_wx 1 sh M L R n) := by
  refine MXW.of (by decide +kernel) (by exact Nat.le_of_ble_eq_true rfl) ?_
  refine wx_aload_n dL_tear_0 rfl ?_
  refine wx_iconst (v := 0) dL_tear_1 (by decide) ?_
  refine wx_aload_n dL_tear_2 rfl ?_
  refine wx_iload_n dL_tear_3 rfl ?_
  refine wx_tryV dL_tear_4 wl_tear my_X11_tear iv_X11_tear (sc_0 hS) (by decide) (x_X11_tear (d := d - 1) hS (by omega) h) rfl (by omega) (by exact Nat.le_of_ble_eq_true rfl) (by omega) (by omega) ?_ (fun _ _ _ _ _ _ q => q.elim)
  rintro E sh' M' L' R' n' ⟨rfl, rfl, rfl, rfl, rfl, hn'⟩
  exact ⟨1, ⟨[], _, _, rfl, px_0e, by decide, by decide, by decide, cx_44, ca_NSEE, (Or.inl ⟨3, 1, dL_tear_19, by decide, dL_tear_20, by decide, dL_tear_21⟩)⟩, rfl, rfl, rfl, rfl, rfl, hn'⟩
theorem w_trim {d : Nat} {X : Nat × (Nat → Int32)} {sh : px_Sh} {M : px_M} {L : px_L} {R : px_R} {n : Nat} {p1 : Int32} {p2 : Int32} {e : Int32 × px_M} (hS : SR sh R) (hd : 8 ≤ d) (h : f_X11_trim sh M R p1 p2 = some (.inl e)) : MXW yL_trim cL_trim 5 (some .int) [(0, 10, 13, 13)] d 0 0 X [.ref 0, .int p1, .int p2, .ref 219] sh M L R n (px_pu (some (.int 0)) sh e.2 (px_u L 219 0 (e.1 : Int32).toInt64) R n) := by
  refine MXW.of (by decide +kernel) (by exact Nat.le_of_ble_eq_true rfl) ?_
  refine wx_aload_n dL_trim_0 rfl ?_
  refine wx_iconst (v := 0) dL_trim_1 (by decide) ?_
  refine wx_aload_n dL_trim_2 rfl ?_
  refine wx_iload_n dL_trim_3 rfl ?_
  refine wx_iload_n dL_trim_4 rfl ?_
  refine wx_tryV dL_trim_5 wl_trim my_X11_trim iv_X11_trim (sc_0 hS) (by decide) (s_X11_trim (d := d - 1) hS (by omega) h) rfl (by omega) (by exact Nat.le_of_ble_eq_true rfl) (by omega) (by omega) (fun _ _ _ _ _ _ q => q.elim) ?_
  rintro v sh' M' L' R' n' ⟨rfl, rfl, rfl, rfl, rfl, rfl⟩
  refine wx_i2l dL_trim_8 ?_
  refine wx_lastk (k := 0) dL_trim_9 (sc_219 hS) rfl (by decide) (by decide) ?_
  refine wx_goto (tgt := 17) dL_trim_10 (by decide) ?_
  refine wx_iconst (v := 0) dL_trim_17 (by decide) ?_
  refine wx_iret dL_trim_18 (by omega) (by omega) ?_
  exact ⟨rfl, rfl, rfl, rfl, rfl, rfl⟩
theorem w_trim_x0 {d : Nat} {X : Nat × (Nat → Int32)} {sh : px_Sh} {M : px_M} {L : px_L} {R : px_R} {n : Nat} {p1 : Int32} {p2 : Int32} (hS : SR sh R) (hd : 8 ≤ d) (h : f_X11_trim sh M R p1 p2 = some (.inr 0)) : MXW yL_trim cL_trim 5 (some .int) [(0, 10, 13, 13)] d 1 6 X [.ref 0, .int p1, .int p2, .ref 219] sh M L R n (px_wx 1 sh M L R n) := by
  refine MXW.of (by decide +kernel) (by exact Nat.le_of_ble_eq_true rfl) ?_
  refine wx_aload_n dL_trim_0 rfl ?_
  refine wx_iconst (v := 0) dL_trim_1 (by decide) ?_
  refine wx_aload_n dL_trim_2 rfl ?_
  refine wx_iload_n dL_trim_3 rfl ?_
  refine wx_iload_n dL_trim_4 rfl ?_
  refine wx_tryV dL_trim_5 wl_trim my_X11_trim iv_X11_trim (sc_0 hS) (by decide) (x_X11_trim (d := d - 1) hS (by omega) h) rfl (by omega) (by exact Nat.le_of_ble_eq_true rfl) (by omega) (by omega) ?_ (fun _ _ _ _ _ _ q => q.elim)
  rintro E sh' M' L' R' n' ⟨rfl, rfl, rfl, rfl, rfl, hn'⟩
  exact ⟨1, ⟨[], _, _, rfl, px_0e, by decide, by decide, by decide, cx_13, ca_IAE, (Or.inr ⟨4, 1, dL_trim_13, by decide, dL_trim_15, by decide, dL_trim_16⟩)⟩, rfl, rfl, rfl, rfl, rfl, hn'⟩
theorem w_turn {d : Nat} {X : Nat × (Nat → Int32)} {sh : px_Sh} {M : px_M} {L : px_L} {R : px_R} {n : Nat} {p1 : Int32} {p2 : Int32} {e : Int32} (hS : SR sh R) (hd : 8 ≤ d) (h : f_X11_turn sh M R p1 p2 = some (.inl e)) : MXW yL_turn cL_turn 5 (some .int) [(0, 10, 13, 13)] d 0 0 X [.ref 0, .int p1, .int p2, .ref 219] sh M L R n (px_pu (some (.int 0)) sh M (px_u L 219 0 (e : Int32).toInt64) R n) := by
  refine MXW.of (by decide +kernel) (by exact Nat.le_of_ble_eq_true rfl) ?_
  refine wx_aload_n dL_turn_0 rfl ?_
  refine wx_iconst (v := 0) dL_turn_1 (by decide) ?_
  refine wx_aload_n dL_turn_2 rfl ?_
  refine wx_iload_n dL_turn_3 rfl ?_
  refine wx_iload_n dL_turn_4 rfl ?_
  refine wx_tryV dL_turn_5 wl_turn my_X11_turn iv_X11_turn (sc_0 hS) (by decide) (s_X11_turn (d := d - 1) hS (by omega) h) rfl (by omega) (by exact Nat.le_of_ble_eq_true rfl) (by omega) (by omega) (fun _ _ _ _ _ _ q => q.elim) ?_
  rintro v sh' M' L' R' n' ⟨rfl, rfl, rfl, rfl, rfl, rfl⟩
  refine wx_i2l dL_turn_8 ?_
  refine wx_lastk (k := 0) dL_turn_9 (sc_219 hS) rfl (by decide) (by decide) ?_
  refine wx_goto (tgt := 17) dL_turn_10 (by decide) ?_
  refine wx_iconst (v := 0) dL_turn_17 (by decide) ?_
  refine wx_iret dL_turn_18 (by omega) (by omega) ?_
  exact ⟨rfl, rfl, rfl, rfl, rfl, rfl⟩
theorem w_turn_x0 {d : Nat} {X : Nat × (Nat → Int32)} {sh : px_Sh} {M : px_M} {L : px_L} {R : px_R} {n : Nat} {p1 : Int32} {p2 : Int32} (hS : SR sh R) (hd : 8 ≤ d) (h : f_X11_turn sh M R p1 p2 = some (.inr 0)) : MXW yL_turn cL_turn 5 (some .int) [(0, 10, 13, 13)] d 1 6 X [.ref 0, .int p1, .int p2, .ref 219] sh M L R n (px_wx 1 sh M L R n) := by
  refine MXW.of (by decide +kernel) (by exact Nat.le_of_ble_eq_true rfl) ?_
  refine wx_aload_n dL_turn_0 rfl ?_
  refine wx_iconst (v := 0) dL_turn_1 (by decide) ?_
  refine wx_aload_n dL_turn_2 rfl ?_
  refine wx_iload_n dL_turn_3 rfl ?_
  refine wx_iload_n dL_turn_4 rfl ?_
  refine wx_tryV dL_turn_5 wl_turn my_X11_turn iv_X11_turn (sc_0 hS) (by decide) (x_X11_turn (d := d - 1) hS (by omega) h) rfl (by omega) (by exact Nat.le_of_ble_eq_true rfl) (by omega) (by omega) ?_ (fun _ _ _ _ _ _ q => q.elim)
  rintro E sh' M' L' R' n' ⟨rfl, rfl, rfl, rfl, rfl, hn'⟩
  exact ⟨1, ⟨[], _, _, rfl, px_0e, by decide, by decide, by decide, cx_13, ca_IAE, (Or.inr ⟨4, 1, dL_turn_13, by decide, dL_turn_15, by decide, dL_turn_16⟩)⟩, rfl, rfl, rfl, rfl, rfl, hn'⟩
theorem w_weights {d : Nat} {X : Nat × (Nat → Int32)} {sh : px_Sh} {M : px_M} {L : px_L} {R : px_R} {n : Nat} {p1 : Int32} {p2 : Int32} {e : px_M} (hS : SR sh R) (hd : 8 ≤ d) (h : f_X11_weights M p1 p2 = some (.inl e)) : MXW yL_weights cL_weights 4 (some .int) [(0, 6, 9, 13)] d 0 0 X [.ref 0, .int p1, .int p2] sh M L R n (px_pu (some (.int 0)) sh e L R n) := by
  refine MXW.of (by decide +kernel) (by exact Nat.le_of_ble_eq_true rfl) ?_
  refine wx_aload_n dL_weights_0 rfl ?_
  refine wx_iload_n dL_weights_1 rfl ?_
  refine wx_iload_n dL_weights_2 rfl ?_
  refine wx_tryV dL_weights_3 wl_weights my_X11_weights iv_X11_weights (sc_0 hS) (by decide) (s_X11_weights (d := d - 1) hS (by omega) h) rfl (by omega) (by exact Nat.le_of_ble_eq_true rfl) (by omega) (by omega) (fun _ _ _ _ _ _ q => q.elim) ?_
  rintro v sh' M' L' R' n' ⟨rfl, rfl, rfl, rfl, rfl, rfl⟩
  refine wx_goto (tgt := 12) dL_weights_6 (by decide) ?_
  refine wx_iconst (v := 0) dL_weights_12 (by decide) ?_
  refine wx_iret dL_weights_13 (by omega) (by omega) ?_
  exact ⟨rfl, rfl, rfl, rfl, rfl, rfl⟩
theorem w_weights_x0 {d : Nat} {X : Nat × (Nat → Int32)} {sh : px_Sh} {M : px_M} {L : px_L} {R : px_R} {n : Nat} {p1 : Int32} {p2 : Int32} (hS : SR sh R) (hd : 8 ≤ d) (h : f_X11_weights M p1 p2 = some (.inr 0)) : MXW yL_weights cL_weights 4 (some .int) [(0, 6, 9, 13)] d 1 6 X [.ref 0, .int p1, .int p2] sh M L R n (px_wx 1 sh M L R n) := by
  refine MXW.of (by decide +kernel) (by exact Nat.le_of_ble_eq_true rfl) ?_
  refine wx_aload_n dL_weights_0 rfl ?_
  refine wx_iload_n dL_weights_1 rfl ?_
  refine wx_iload_n dL_weights_2 rfl ?_
  refine wx_tryV dL_weights_3 wl_weights my_X11_weights iv_X11_weights (sc_0 hS) (by decide) (x_X11_weights (d := d - 1) hS (by omega) h) rfl (by omega) (by exact Nat.le_of_ble_eq_true rfl) (by omega) (by omega) ?_ (fun _ _ _ _ _ _ q => q.elim)
  rintro E sh' M' L' R' n' ⟨rfl, rfl, rfl, rfl, rfl, hn'⟩
  exact ⟨1, ⟨[], _, _, rfl, px_0e, by decide, by decide, by decide, cx_13, ca_IAE, (Or.inl ⟨3, 1, dL_weights_9, by decide, dL_weights_10, by decide, dL_weights_11⟩)⟩, rfl, rfl, rfl, rfl, rfl, hn'⟩
theorem w_window {d : Nat} {X : Nat × (Nat → Int32)} {sh : px_Sh} {M : px_M} {L : px_L} {R : px_R} {n : Nat} {p1 : Int32} {e : Int32 × px_M × px_L} (hS : SR sh R) (hd : 8 ≤ d) (h : f_X11_window sh M L R p1 = some (.inl e)) : MXW yL_window cL_window 4 (some .int) [(0, 9, 12, 24)] d 0 0 X [.ref 0, .int p1, .ref 219] sh M L R n (px_pu (some (.int 0)) sh e.2.1 (px_u e.2.2 219 0 (e.1 : Int32).toInt64) R n) := by
  refine MXW.of (by decide +kernel) (by exact Nat.le_of_ble_eq_true rfl) ?_
  refine wx_aload_n dL_window_0 rfl ?_
  refine wx_iconst (v := 0) dL_window_1 (by decide) ?_
  refine wx_aload_n dL_window_2 rfl ?_
  refine wx_iload_n dL_window_3 rfl ?_
  refine wx_tryV dL_window_4 wl_window my_X11_window iv_X11_window (sc_0 hS) (by decide) (s_X11_window (d := d - 1) hS (by omega) h) rfl (by omega) (by exact Nat.le_of_ble_eq_true rfl) (by omega) (by omega) (fun _ _ _ _ _ _ q => q.elim) ?_
  rintro v sh' M' L' R' n' ⟨rfl, rfl, rfl, rfl, rfl, rfl⟩
  refine wx_i2l dL_window_7 ?_
  refine wx_lastk (k := 0) dL_window_8 (sc_219 hS) rfl (by decide) (by decide) ?_
  refine wx_goto (tgt := 15) dL_window_9 (by decide) ?_
  refine wx_iconst (v := 0) dL_window_15 (by decide) ?_
  refine wx_iret dL_window_16 (by omega) (by omega) ?_
  exact ⟨rfl, rfl, rfl, rfl, rfl, rfl⟩
theorem w_window_x2 {d : Nat} {X : Nat × (Nat → Int32)} {sh : px_Sh} {M : px_M} {L : px_L} {R : px_R} {n : Nat} {p1 : Int32} (hS : SR sh R) (hd : 8 ≤ d) (h : f_X11_window sh M L R p1 = some (.inr 2)) : MXW yL_window cL_window 4 (some .int) [(0, 9, 12, 24)] d 1 6 X [.ref 0, .int p1, .ref 219] sh M L R n (px_wx 1 sh M L R n) := by
  refine MXW.of (by decide +kernel) (by exact Nat.le_of_ble_eq_true rfl) ?_
  refine wx_aload_n dL_window_0 rfl ?_
  refine wx_iconst (v := 0) dL_window_1 (by decide) ?_
  refine wx_aload_n dL_window_2 rfl ?_
  refine wx_iload_n dL_window_3 rfl ?_
  refine wx_tryV dL_window_4 wl_window my_X11_window iv_X11_window (sc_0 hS) (by decide) (x_X11_window (d := d - 1) hS (by omega) h) rfl (by omega) (by exact Nat.le_of_ble_eq_true rfl) (by omega) (by omega) ?_ (fun _ _ _ _ _ _ q => q.elim)
  rintro E sh' M' L' R' n' ⟨rfl, rfl, rfl, rfl, rfl, hn'⟩
  exact ⟨1, ⟨[], _, _, rfl, px_0e, by decide, by decide, by decide, cx_24, ca_IOOBE, (Or.inl ⟨3, 1, dL_window_12, by decide, dL_window_13, by decide, dL_window_14⟩)⟩, rfl, rfl, rfl, rfl, rfl, hn'⟩
theorem w_windowN {d : Nat} {X : Nat × (Nat → Int32)} {sh : px_Sh} {M : px_M} {L : px_L} {R : px_R} {n : Nat} {p1 : Int32} {e : Int32 × px_Sh × px_M × px_L × px_R × Nat} (hS : SR sh R) (hd : 8 ≤ d) (hn : 220 ≤ n) (h : f_X11_windowN sh M L R n p1 = some (.inl e)) : MXW yL_window cL_window 4 (some .int) [(0, 9, 12, 24)] d 2 20996 X [.ref 0, .int p1, .ref 219] sh M L R n (px_pa (some (.int 0)) e.2.1 e.2.2.1 (px_u e.2.2.2.1 219 0 (e.1 : Int32).toInt64) e.2.2.2.2.1 e.2.2.2.2.2) := by
  refine MXW.of (by decide +kernel) (by exact Nat.le_of_ble_eq_true rfl) ?_
  refine wx_aload_n dL_window_0 rfl ?_
  refine wx_iconst (v := 0) dL_window_1 (by decide) ?_
  refine wx_aload_n dL_window_2 rfl ?_
  refine wx_iload_n dL_window_3 rfl ?_
  refine wx_tryV dL_window_4 wl_window my_X11_window iv_X11_window (sc_0 hS) (by decide) (s_X11_windowN (d := d - 1) hS (by omega) hn h) rfl (by omega) (by exact Nat.le_of_ble_eq_true rfl) (by omega) (by omega) (fun _ _ _ _ _ _ q => q.elim) ?_
  rintro v sh' M' L' R' n' ⟨⟨rfl, rfl, rfl, rfl, rfl, rfl⟩, hS, hn⟩
  refine wx_i2l dL_window_7 ?_
  refine wx_lastk (k := 0) dL_window_8 (sc_219 hS) rfl (by decide) (by decide) ?_
  refine wx_goto (tgt := 15) dL_window_9 (by decide) ?_
  refine wx_iconst (v := 0) dL_window_15 (by decide) ?_
  refine wx_iret dL_window_16 (by omega) (by omega) ?_
  exact ⟨⟨rfl, rfl, rfl, rfl, rfl, rfl⟩, hS, hn⟩
theorem w_world {d : Nat} {X : Nat × (Nat → Int32)} {sh : px_Sh} {M : px_M} {L : px_L} {R : px_R} {n : Nat} {p1 : Int32} {p2 : Int32} {p3 : Int32} {e : Int32 × px_Sh × px_M × px_L × px_R × Nat} (hS : SR sh R) (hd : 8 ≤ d) (hn : 220 ≤ n) (h : f_X11_world sh M L R n p1 p2 p3 = some (.inl e)) : MXW yL_world cL_world 6 (some .int) [(0, 12, 15, 13)] d 1 4 X [.ref 0, .int p1, .int p2, .int p3, .ref 219] sh M L R n (px_pa (some (.int 0)) e.2.1 e.2.2.1 (px_u e.2.2.2.1 219 0 (e.1 : Int32).toInt64) e.2.2.2.2.1 e.2.2.2.2.2) := by
  refine MXW.of (by decide +kernel) (by exact Nat.le_of_ble_eq_true rfl) ?_
  refine wx_aload dL_world_0 rfl ?_
  refine wx_iconst (v := 0) dL_world_2 (by decide) ?_
  refine wx_aload_n dL_world_3 rfl ?_
  refine wx_iload_n dL_world_4 rfl ?_
  refine wx_iload_n dL_world_5 rfl ?_
  refine wx_iload_n dL_world_6 rfl ?_
  refine wx_tryV dL_world_7 wl_world my_X11_world iv_X11_world (sc_0 hS) (by decide) (s_X11_world (d := d - 1) hS (by omega) hn h) rfl (by omega) (by exact Nat.le_of_ble_eq_true rfl) (by omega) (by omega) (fun _ _ _ _ _ _ q => q.elim) ?_
  rintro v sh' M' L' R' n' ⟨⟨rfl, rfl, rfl, rfl, rfl, rfl⟩, hS, hn⟩
  refine wx_i2l dL_world_10 ?_
  refine wx_lastk (k := 0) dL_world_11 (sc_219 hS) rfl (by decide) (by decide) ?_
  refine wx_goto (tgt := 19) dL_world_12 (by decide) ?_
  refine wx_iconst (v := 0) dL_world_19 (by decide) ?_
  refine wx_iret dL_world_20 (by omega) (by omega) ?_
  exact ⟨⟨rfl, rfl, rfl, rfl, rfl, rfl⟩, hS, hn⟩
theorem w_world_x0 {d : Nat} {X : Nat × (Nat → Int32)} {sh : px_Sh} {M : px_M} {L : px_L} {R : px_R} {n : Nat} {p1 : Int32} {p2 : Int32} {p3 : Int32} (hS : SR sh R) (hd : 8 ≤ d) (hn : 220 ≤ n) (h : f_X11_world sh M L R n p1 p2 p3 = some (.inr 0)) : MXW yL_world cL_world 6 (some .int) [(0, 12, 15, 13)] d 1 6 X [.ref 0, .int p1, .int p2, .int p3, .ref 219] sh M L R n (px_wx 1 sh M L R n) := by
  refine MXW.of (by decide +kernel) (by exact Nat.le_of_ble_eq_true rfl) ?_
  refine wx_aload dL_world_0 rfl ?_
  refine wx_iconst (v := 0) dL_world_2 (by decide) ?_
  refine wx_aload_n dL_world_3 rfl ?_
  refine wx_iload_n dL_world_4 rfl ?_
  refine wx_iload_n dL_world_5 rfl ?_
  refine wx_iload_n dL_world_6 rfl ?_
  refine wx_tryV dL_world_7 wl_world my_X11_world iv_X11_world (sc_0 hS) (by decide) (x_X11_world (d := d - 1) hS (by omega) hn h) rfl (by omega) (by exact Nat.le_of_ble_eq_true rfl) (by omega) (by omega) ?_ (fun _ _ _ _ _ _ q => q.elim)
  rintro E sh' M' L' R' n' ⟨rfl, rfl, rfl, rfl, rfl, hn'⟩
  exact ⟨1, ⟨[], _, _, rfl, px_0e, by decide, by decide, by decide, cx_13, ca_IAE, (Or.inr ⟨5, 1, dL_world_15, by decide, dL_world_17, by decide, dL_world_18⟩)⟩, rfl, rfl, rfl, rfl, rfl, hn'⟩
