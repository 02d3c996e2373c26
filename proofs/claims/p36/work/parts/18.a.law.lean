theorem law_end {p : Program} {l : Launch} {e : Env} {s : State} {m : MethodId} {below : List Frame} {meth : Method} {c : Code} {b L : Nat} {xs : Nat → Int32} (C0 : lw_At p s m meth c b L xs) {A : Nat → Prop} (hAz : ∀ q, A q → s.heap.size ≤ q) {H : Heap} {locs : List Loc} {ls : Array Slot} {x mo o cc0 ss0 : Nat} {i : Int32} (hS : va_S A s.heap H locs) (hl : lv_has ls 7 [(1, .ref x), (2, .ref mo), (3, .ref o), (4, .int i), (0, .ref b)]) (hL : L ≤ 3072) (hi : (L : Int) - 6 < i.toInt) (hc : cc0 ≤ 601024) (hs : ss0 ≤ 7293034) : W p l e room_1 s m #[Value.ref b] below meth c H locs cc0 ss0 (lw_Z below #[Value.ref b] s) (F0 m 23 ls []) := by
  obtain ⟨hx, hb, hr, hml, hown, hts, hX, hbl, hlocks, hgv⟩ := id C0
  have hbA : ¬ A b := fun h => Nat.not_le.mpr hbl (hAz b h)
  have eL : (Int32.ofNat L).toInt = L := nI_toInt (n := L) (by omega)
  refine lv_iload hx hb dL_law_23 (lv_at hl 3 rfl) ?_
  refine lv_aload_n hx hb dL_law_25 rfl (lv_at hl 4 rfl) ?_
  refine va_slen hx hb hX hbl hbA hS dL_law_26 ?_
  refine lv_bipush (v := 6) hx hb dL_law_27 (by decide) ?_
  refine lv_isub hx hb dL_law_29 ?_
  have e6 : (Int32.ofNat L - 6).toInt = L - 6 := sub_i eL (b := 6) rfl (by omega) (by omega)
  refine lv_icmp_gt (tgt := 1232) hx hb dL_law_30 (by decide) (fun _ => ?_) (fun g => absurd (nlt_i (a := L - 6) (b := i.toInt) e6 rfl g) (by omega))
  refine lv_iconst (v := 1) hx hb dL_law_1232 (by decide) ?_
  refine va_forget (fun q hq => hAz _ (hS.2.2 q hq)) ?_
  refine W.widen (k := 601024) (n := 7293034) hc hs ?_
  exact lw_ret hx hb hr hlocks dL_law_1233
set_option maxHeartbeats 40000000 in
set_option maxRecDepth 100000 in
theorem law_loop {p : Program} {l : Launch} {e : Env} {s : State} {m : MethodId} {below : List Frame} {meth : Method} {c : Code} {b L : Nat} {xs : Nat → Int32} (hst : l.stackTraces = false) (C0 : lw_At p s m meth c b L xs) {D : va_G} {cI cJ cB cP cM cZ : ClassId} {tU tL tM sa : Nat} (hG : GY D cI cJ cB cP cM cZ s.heap.size tU tL tM [] s) (hGX : GX D cI cJ cB cP cM cZ s.heap.size sa [] s) {A : Nat → Prop} (hA : ∀ q : Nat, s.heap.size ≤ q → A q) (hAz : ∀ q, A q → s.heap.size ≤ q) (hL : L ≤ 3072) {x mo o : Nat} :
    ∀ (n k jl ll : Nat) (bs : List va_W) (i : Int32) (H : Heap) (locs : List Loc) (ls : Array Slot), L < 6 * (k + n) → 6 * k ≤ L + 5 → i.toInt = 6 * k → jl ≤ 1 → ll ≤ 1 → LINV cI cJ cB cP cM cZ x mo o jl ll bs → va_P D vwCl bs.flatten H → va_D A bs.flatten → va_S A s.heap H locs → lv_has ls 7 [(1, .ref x), (2, .ref mo), (3, .ref o), (4, .int i), (0, .ref b)] → W p l e room_1 s m #[Value.ref b] below meth c H locs (200 + 40 * k + 20 * jl + 20 * ll) (430000 + 6000 * k + 31000 * jl + 5000 * ll) (lw_Z below #[Value.ref b] s) (F0 m 23 ls []) := by
  intro n
  induction n with
  | zero =>
    intro k jl ll bs i H locs ls h1 h2 hi hj1 hj2 hI hP hD hS hl
    exact law_end C0 hAz hS hl hL (by omega) (by omega) (by omega)
  | succ n ih =>
    intro k jl ll bs i H locs ls h1 h2 hi hj1 hj2 hI hP hD hS hl
    by_cases hq : L < 6 * k + 6
    · exact law_end C0 hAz hS hl hL (by omega) (by omega) (by omega)
    · obtain ⟨hx, hb, hr, hml, hown, hts, hX, hbl, hlocks, hgv⟩ := id C0
      have hbA : ¬ A b := fun h => Nat.not_le.mpr hbl (hAz b h)
      have eL : (Int32.ofNat L).toInt = L := nI_toInt (n := L) (by omega)
      refine lv_iload hx hb dL_law_23 (lv_at hl 3 rfl) ?_
      refine lv_aload_n hx hb dL_law_25 rfl (lv_at hl 4 rfl) ?_
      refine va_slen hx hb hX hbl hbA hS dL_law_26 ?_
      refine lv_bipush (v := 6) hx hb dL_law_27 (by decide) ?_
      refine lv_isub hx hb dL_law_29 ?_
      have e6 : (Int32.ofNat L - 6).toInt = L - 6 := sub_i eL (b := 6) rfl (by omega) (by omega)
      refine lv_icmp_gt (tgt := 1232) hx hb dL_law_30 (by decide) (fun g => absurd (lt_i (a := L - 6) (b := 6 * k) e6 hi g) (by omega)) (fun _ => ?_)
      refine lv_aload_n hx hb dL_law_33 rfl (lv_at hl 4 rfl) ?_
      refine lv_iload hx hb dL_law_34 (lv_at hl 3 rfl) ?_
      refine va_sld hx hb hX hbl hbA hS (ix_i (by omega) (by omega)) dL_law_36 ?_
      refine lv_bipush (v := 63) hx hb dL_law_37 (by decide) ?_
      refine lv_iand hx hb dL_law_39 ?_
      refine lv_topi (fun sw esw => ?_)
      have hcN : 200 + 40 * k + 20 * jl + 20 * ll + 100 ≤ room_1.cells := by show _ ≤ 601024; omega
      have hsN : 430000 + 6000 * k + 31000 * jl + 5000 * ll + 40000 ≤ room_1.slots := by show _ ≤ 7293034; omega
      have kk : ∀ (jl2 ll2 : Nat) (bs2 : List va_W) (H1 : Heap) (locs1 : List Loc) (ls1 : Array Slot), LINV cI cJ cB cP cM cZ x mo o jl2 ll2 bs2 → (jl ≤ jl2 ∧ jl2 ≤ 1 ∧ ll ≤ ll2 ∧ ll2 ≤ 1) → va_P D vwCl bs2.flatten H1 → va_D A bs2.flatten → va_S A s.heap H1 locs1 → lv_has ls1 7 [(1, .ref x), (2, .ref mo), (3, .ref o), (4, .int i), (0, .ref b)] → W p l e room_1 s m #[Value.ref b] below meth c H1 locs1 (200 + 40 * k + 20 * jl + 20 * ll + (40 + 20 * (jl2 - jl) + 20 * (ll2 - ll))) (430000 + 6000 * k + 31000 * jl + 5000 * ll + (6000 + 31000 * (jl2 - jl) + 5000 * (ll2 - ll))) (lw_Z below #[Value.ref b] s) (F0 m 1226 ls1 []) := by
        intro jl2 ll2 bs2 H1 locs1 ls1 hI2 hj hP2 hD2 hS2 hl2
        obtain ⟨i2, ei2⟩ : ∃ z : Int32, z = i + 6 := ⟨_, rfl⟩
        have hi2 : i2.toInt = 6 * ((k + 1 : Nat) : Int) := by rw [ei2, add_i hi (b := 6) rfl (by omega) (by omega)]; omega
        refine lv_iinc (v := i2) (lv' := [(4, .int i2), (1, .ref x), (2, .ref mo), (3, .ref o), (0, .ref b)]) hx hb dL_law_1226 hl2 (k := 3) rfl (by rw [ei2]; rfl) (by decide) rfl (fun ls hl => ?_)
        refine lv_goto (tgt := 23) hx hb dL_law_1229 (by decide) ?_
        refine W.widen (k := 200 + 40 * (k + 1) + 20 * jl2 + 20 * ll2) (n := 430000 + 6000 * (k + 1) + 31000 * jl2 + 5000 * ll2) (by omega) (by omega) ?_
        exact ih (k + 1) jl2 ll2 bs2 i2 H1 locs1 ls (by omega) (by omega) hi2 hj.2.1 hj.2.2.2 hI2 hP2 hD2 hS2 (lv_sub hl [1, 2, 3, 0, 4] rfl)
      have kk4 : ∀ (jl2 ll2 : Nat) (bs2 : List va_W) (H1 : Heap) (locs1 : List Loc) (ls1 : Array Slot), LINV cI cJ cB cP cM cZ x mo o jl2 ll2 bs2 → (jl ≤ jl2 ∧ jl2 ≤ 1 ∧ ll ≤ ll2 ∧ ll2 ≤ 1) → va_P D vwCl bs2.flatten H1 → va_D A bs2.flatten → va_S A s.heap H1 locs1 → lv_has ls1 7 [(1, .ref x), (2, .ref mo), (3, .ref o), (4, .int i), (0, .ref b)] → W p l e room_1 s m #[Value.ref b] below meth c H1 locs1 (200 + 40 * k + 20 * jl + 20 * ll + (40 + 20 * (jl2 - jl) + 20 * (ll2 - ll))) (430000 + 6000 * k + 31000 * jl + 5000 * ll + (400 + 31000 * (jl2 - jl) + 5000 * (ll2 - ll))) (lw_Z below #[Value.ref b] s) (F0 m 1226 ls1 []) := fun jl2 ll2 bs2 H1 locs1 ls1 a1 a2 a3 a4 a5 a6 => W.widen (by omega) (by omega) (kk jl2 ll2 bs2 H1 locs1 ls1 a1 a2 a3 a4 a5 a6)
      by_cases k_0 : sw = 0
      · refine lv_ci (y := 0) k_0 ?_
        refine lv_tableIn (tgt := 212) (off := 172) hx hb dL_law_40 (by decide) (by decide) (by decide) (by decide) ?_
        exact lc_feed C0 hG hA hAz hI (i := i) ⟨by omega, by omega⟩ hL hcN hsN hP hD hS hl kk4
      by_cases k_1 : sw = 1
      · refine lv_ci (y := 1) k_1 ?_
        refine lv_tableIn (tgt := 285) (off := 245) hx hb dL_law_40 (by decide) (by decide) (by decide) (by decide) ?_
        exact lc_end C0 hG hA hAz hI (i := i) ⟨by omega, by omega⟩ hL hcN hsN hP hD hS hl kk4
      by_cases k_2 : sw = 2
      · refine lv_ci (y := 2) k_2 ?_
        refine lv_tableIn (tgt := 310) (off := 270) hx hb dL_law_40 (by decide) (by decide) (by decide) (by decide) ?_
        exact lc_course C0 hG hA hAz hI (i := i) ⟨by omega, by omega⟩ hL hcN hsN hP hD hS hl kk4
      by_cases k_3 : sw = 3
      · refine lv_ci (y := 3) k_3 ?_
        refine lv_tableIn (tgt := 323) (off := 283) hx hb dL_law_40 (by decide) (by decide) (by decide) (by decide) ?_
        exact lc_plan C0 hG hA hAz hI (i := i) ⟨by omega, by omega⟩ hL hcN hsN hP hD hS hl kk4
      by_cases k_4 : sw = 4
      · refine lv_ci (y := 4) k_4 ?_
        refine lv_tableIn (tgt := 336) (off := 296) hx hb dL_law_40 (by decide) (by decide) (by decide) (by decide) ?_
        exact lc_fault C0 hG hA hAz hI (i := i) ⟨by omega, by omega⟩ hL hcN hsN hP hD hS hl kk4
      by_cases k_5 : sw = 5
      · refine lv_ci (y := 5) k_5 ?_
        refine lv_tableIn (tgt := 349) (off := 309) hx hb dL_law_40 (by decide) (by decide) (by decide) (by decide) ?_
        exact lc_man hst C0 hG hGX hA hAz hI (i := i) ⟨by omega, by omega⟩ hL hcN hsN hP hD hS hl kk4
      by_cases k_6 : sw = 6
      · refine lv_ci (y := 6) k_6 ?_
        refine lv_tableIn (tgt := 389) (off := 349) hx hb dL_law_40 (by decide) (by decide) (by decide) (by decide) ?_
        exact lc_bend C0 hG hA hAz hI (i := i) ⟨by omega, by omega⟩ hL hcN hsN hP hD hS hl kk4
      by_cases k_7 : sw = 7
      · refine lv_ci (y := 7) k_7 ?_
        refine lv_tableIn (tgt := 426) (off := 386) hx hb dL_law_40 (by decide) (by decide) (by decide) (by decide) ?_
        exact lc_runner C0 hG hA hAz hI (i := i) ⟨by omega, by omega⟩ hL hcN hsN hP hD hS hl kk4
      by_cases k_8 : sw = 8
      · refine lv_ci (y := 8) k_8 ?_
        refine lv_tableIn (tgt := 463) (off := 423) hx hb dL_law_40 (by decide) (by decide) (by decide) (by decide) ?_
        exact lc_start C0 hG hA hAz hI (i := i) ⟨by omega, by omega⟩ hL hcN hsN hP hD hS hl kk4
      by_cases k_9 : sw = 9
      · refine lv_ci (y := 9) k_9 ?_
        refine lv_tableIn (tgt := 488) (off := 448) hx hb dL_law_40 (by decide) (by decide) (by decide) (by decide) ?_
        exact lc_pace C0 hG hA hAz hI (i := i) ⟨by omega, by omega⟩ hL hcN hsN hP hD hS hl kk4
      by_cases k_10 : sw = 10
      · refine lv_ci (y := 10) k_10 ?_
        refine lv_tableIn (tgt := 513) (off := 473) hx hb dL_law_40 (by decide) (by decide) (by decide) (by decide) ?_
        exact lc_jumps C0 hG hA hAz hI (i := i) ⟨by omega, by omega⟩ hL hcN hsN hP hD hS hl kk4
      by_cases k_11 : sw = 11
      · refine lv_ci (y := 11) k_11 ?_
        refine lv_tableIn (tgt := 538) (off := 498) hx hb dL_law_40 (by decide) (by decide) (by decide) (by decide) ?_
        exact lc_run C0 hG hA hAz hI (i := i) ⟨by omega, by omega⟩ hL hcN hsN hP hD hS hl kk4
      by_cases k_12 : sw = 12
      · refine lv_ci (y := 12) k_12 ?_
        refine lv_tableIn (tgt := 563) (off := 523) hx hb dL_law_40 (by decide) (by decide) (by decide) (by decide) ?_
        exact lc_behind C0 hG hA hAz hI (i := i) ⟨by omega, by omega⟩ hL hcN hsN hP hD hS hl kk4
      by_cases k_13 : sw = 13
      · refine lv_ci (y := 13) k_13 ?_
        refine lv_tableIn (tgt := 588) (off := 548) hx hb dL_law_40 (by decide) (by decide) (by decide) (by decide) ?_
        exact lc_jump C0 hG hA hAz hI (i := i) ⟨by omega, by omega⟩ hL hcN hsN hP hD hS hl kk4
      by_cases k_14 : sw = 14
      · refine lv_ci (y := 14) k_14 ?_
        refine lv_tableIn (tgt := 625) (off := 585) hx hb dL_law_40 (by decide) (by decide) (by decide) (by decide) ?_
        exact lc_high C0 hG hA hAz hI (i := i) ⟨by omega, by omega⟩ hL hcN hsN hP hD hS hl kk4
      by_cases k_15 : sw = 15
      · refine lv_ci (y := 15) k_15 ?_
        refine lv_tableIn (tgt := 662) (off := 622) hx hb dL_law_40 (by decide) (by decide) (by decide) (by decide) ?_
        exact lc_set C0 hG hA hAz hI (i := i) ⟨by omega, by omega⟩ hL hcN hsN hP hD hS hl kk4
      by_cases k_16 : sw = 16
      · refine lv_ci (y := 16) k_16 ?_
        refine lv_tableIn (tgt := 699) (off := 659) hx hb dL_law_40 (by decide) (by decide) (by decide) (by decide) ?_
        exact lc_swap C0 hG hA hAz hI (i := i) ⟨by omega, by omega⟩ hL hcN hsN hP hD hS hl kk4
      by_cases k_17 : sw = 17
      · refine lv_ci (y := 17) k_17 ?_
        refine lv_tableIn (tgt := 736) (off := 696) hx hb dL_law_40 (by decide) (by decide) (by decide) (by decide) ?_
        exact lc_undo C0 hG hA hAz hI (i := i) ⟨by omega, by omega⟩ hL hcN hsN hP hD hS hl kk4
      by_cases k_18 : sw = 18
      · refine lv_ci (y := 18) k_18 ?_
        refine lv_tableIn (tgt := 749) (off := 709) hx hb dL_law_40 (by decide) (by decide) (by decide) (by decide) ?_
        exact lc_best C0 hG hA hAz hI (i := i) ⟨by omega, by omega⟩ hL hcN hsN hP hD hS hl kk4
      by_cases k_19 : sw = 19
      · refine lv_ci (y := 19) k_19 ?_
        refine lv_tableIn (tgt := 762) (off := 722) hx hb dL_law_40 (by decide) (by decide) (by decide) (by decide) ?_
        exact lc_when C0 hG hA hAz hI (i := i) ⟨by omega, by omega⟩ hL hcN hsN hP hD hS hl kk4
      by_cases k_20 : sw = 20
      · refine lv_ci (y := 20) k_20 ?_
        refine lv_tableIn (tgt := 787) (off := 747) hx hb dL_law_40 (by decide) (by decide) (by decide) (by decide) ?_
        exact lc_line C0 hG hA hAz hI (i := i) ⟨by omega, by omega⟩ hL hcN hsN hP hD hS hl kk
      by_cases k_21 : sw = 21
      · refine lv_ci (y := 21) k_21 ?_
        refine lv_tableIn (tgt := 800) (off := 760) hx hb dL_law_40 (by decide) (by decide) (by decide) (by decide) ?_
        exact lc_height C0 hG hA hAz hI (i := i) ⟨by omega, by omega⟩ hL hcN hsN hP hD hS hl kk4
      by_cases k_22 : sw = 22
      · refine lv_ci (y := 22) k_22 ?_
        refine lv_tableIn (tgt := 825) (off := 785) hx hb dL_law_40 (by decide) (by decide) (by decide) (by decide) ?_
        exact lc_take C0 hG hA hAz hI (i := i) ⟨by omega, by omega⟩ hL hcN hsN hP hD hS hl kk4
      by_cases k_23 : sw = 23
      · refine lv_ci (y := 23) k_23 ?_
        refine lv_tableIn (tgt := 850) (off := 810) hx hb dL_law_40 (by decide) (by decide) (by decide) (by decide) ?_
        exact lc_four C0 hG hA hAz hI (i := i) ⟨by omega, by omega⟩ hL hcN hsN hP hD hS hl kk4
      by_cases k_24 : sw = 24
      · refine lv_ci (y := 24) k_24 ?_
        refine lv_tableIn (tgt := 863) (off := 823) hx hb dL_law_40 (by decide) (by decide) (by decide) (by decide) ?_
        exact lc_kilo C0 hG hA hAz hI (i := i) ⟨by omega, by omega⟩ hL hcN hsN hP hD hS hl kk4
      by_cases k_25 : sw = 25
      · refine lv_ci (y := 25) k_25 ?_
        refine lv_tableIn (tgt := 888) (off := 848) hx hb dL_law_40 (by decide) (by decide) (by decide) (by decide) ?_
        exact lc_runners C0 hG hA hAz hI (i := i) ⟨by omega, by omega⟩ hL hcN hsN hP hD hS hl kk4
      by_cases k_26 : sw = 26
      · refine lv_ci (y := 26) k_26 ?_
        refine lv_tableIn (tgt := 901) (off := 861) hx hb dL_law_40 (by decide) (by decide) (by decide) (by decide) ?_
        exact lc_runs C0 hG hA hAz hI (i := i) ⟨by omega, by omega⟩ hL hcN hsN hP hD hS hl kk4
      by_cases k_27 : sw = 27
      · refine lv_ci (y := 27) k_27 ?_
        refine lv_tableIn (tgt := 914) (off := 874) hx hb dL_law_40 (by decide) (by decide) (by decide) (by decide) ?_
        exact lc_worth C0 hG hA hAz hI (i := i) ⟨by omega, by omega⟩ hL hcN hsN hP hD hS hl kk4
      by_cases k_28 : sw = 28
      · refine lv_ci (y := 28) k_28 ?_
        refine lv_tableIn (tgt := 951) (off := 911) hx hb dL_law_40 (by decide) (by decide) (by decide) (by decide) ?_
        exact lc_keep C0 hG hA hAz hI (i := i) ⟨by omega, by omega⟩ hL hcN hsN hP hD hS hl kk4
      by_cases k_29 : sw = 29
      · refine lv_ci (y := 29) k_29 ?_
        refine lv_tableIn (tgt := 964) (off := 924) hx hb dL_law_40 (by decide) (by decide) (by decide) (by decide) ?_
        exact lc_lost C0 hG hA hAz hI (i := i) ⟨by omega, by omega⟩ hL hcN hsN hP hD hS hl kk4
      by_cases k_30 : sw = 30
      · refine lv_ci (y := 30) k_30 ?_
        refine lv_tableIn (tgt := 989) (off := 949) hx hb dL_law_40 (by decide) (by decide) (by decide) (by decide) ?_
        exact lc_touch C0 hG hA hAz hI (i := i) ⟨by omega, by omega⟩ hL hcN hsN hP hD hS hl kk4
      by_cases k_31 : sw = 31
      · refine lv_ci (y := 31) k_31 ?_
        refine lv_tableIn (tgt := 1026) (off := 986) hx hb dL_law_40 (by decide) (by decide) (by decide) (by decide) ?_
        exact lc_drawn C0 hG hA hAz hI (i := i) ⟨by omega, by omega⟩ hL hcN hsN hP hD hS hl kk4
      by_cases k_32 : sw = 32
      · refine lv_ci (y := 32) k_32 ?_
        refine lv_tableIn (tgt := 1051) (off := 1011) hx hb dL_law_40 (by decide) (by decide) (by decide) (by decide) ?_
        exact lc_odds C0 hG hA hAz hI (i := i) ⟨by omega, by omega⟩ hL hcN hsN hP hD hS hl kk4
      by_cases k_33 : sw = 33
      · refine lv_ci (y := 33) k_33 ?_
        refine lv_tableIn (tgt := 1100) (off := 1060) hx hb dL_law_40 (by decide) (by decide) (by decide) (by decide) ?_
        exact lc_room C0 hG hA hAz hI (i := i) ⟨by omega, by omega⟩ hL hcN hsN hP hD hS hl kk4
      by_cases k_34 : sw = 34
      · refine lv_ci (y := 34) k_34 ?_
        refine lv_tableIn (tgt := 1113) (off := 1073) hx hb dL_law_40 (by decide) (by decide) (by decide) (by decide) ?_
        exact lc_sentence C0 hG hA hAz hI (i := i) ⟨by omega, by omega⟩ hL hcN hsN hP hD hS hl kk4
      by_cases k_35 : sw = 35
      · refine lv_ci (y := 35) k_35 ?_
        refine lv_tableIn (tgt := 1126) (off := 1086) hx hb dL_law_40 (by decide) (by decide) (by decide) (by decide) ?_
        exact lc_said C0 hG hA hAz hI (i := i) ⟨by omega, by omega⟩ hL hcN hsN hP hD hS hl kk4
      by_cases k_36 : sw = 36
      · refine lv_ci (y := 36) k_36 ?_
        refine lv_tableIn (tgt := 1151) (off := 1111) hx hb dL_law_40 (by decide) (by decide) (by decide) (by decide) ?_
        exact lc_image C0 hG hA hAz hI (i := i) ⟨by omega, by omega⟩ hL hcN hsN hP hD hS hl kk4
      by_cases k_37 : sw = 37
      · refine lv_ci (y := 37) k_37 ?_
        refine lv_tableIn (tgt := 1176) (off := 1136) hx hb dL_law_40 (by decide) (by decide) (by decide) (by decide) ?_
        exact lc_restore C0 hG hA hAz hI (i := i) ⟨by omega, by omega⟩ hL hcN hsN hP hD hS hl kk4
      by_cases k_38 : sw = 38
      · refine lv_ci (y := 38) k_38 ?_
        refine lv_tableIn (tgt := 1201) (off := 1161) hx hb dL_law_40 (by decide) (by decide) (by decide) (by decide) ?_
        exact lc_count C0 hG hA hAz hI (i := i) ⟨by omega, by omega⟩ hL hcN hsN hP hD hS hl kk4
      refine lv_tableOut (tgt := 1226) hx hb dL_law_40 (by have g0 := lv_neT k_0 (a := 0) rfl; have g1 := lv_neT k_1 (a := 1) rfl; have g2 := lv_neT k_2 (a := 2) rfl; have g3 := lv_neT k_3 (a := 3) rfl; have g4 := lv_neT k_4 (a := 4) rfl; have g5 := lv_neT k_5 (a := 5) rfl; have g6 := lv_neT k_6 (a := 6) rfl; have g7 := lv_neT k_7 (a := 7) rfl; have g8 := lv_neT k_8 (a := 8) rfl; have g9 := lv_neT k_9 (a := 9) rfl; have g10 := lv_neT k_10 (a := 10) rfl; have g11 := lv_neT k_11 (a := 11) rfl; have g12 := lv_neT k_12 (a := 12) rfl; have g13 := lv_neT k_13 (a := 13) rfl; have g14 := lv_neT k_14 (a := 14) rfl; have g15 := lv_neT k_15 (a := 15) rfl; have g16 := lv_neT k_16 (a := 16) rfl; have g17 := lv_neT k_17 (a := 17) rfl; have g18 := lv_neT k_18 (a := 18) rfl; have g19 := lv_neT k_19 (a := 19) rfl; have g20 := lv_neT k_20 (a := 20) rfl; have g21 := lv_neT k_21 (a := 21) rfl; have g22 := lv_neT k_22 (a := 22) rfl; have g23 := lv_neT k_23 (a := 23) rfl; have g24 := lv_neT k_24 (a := 24) rfl; have g25 := lv_neT k_25 (a := 25) rfl; have g26 := lv_neT k_26 (a := 26) rfl; have g27 := lv_neT k_27 (a := 27) rfl; have g28 := lv_neT k_28 (a := 28) rfl; have g29 := lv_neT k_29 (a := 29) rfl; have g30 := lv_neT k_30 (a := 30) rfl; have g31 := lv_neT k_31 (a := 31) rfl; have g32 := lv_neT k_32 (a := 32) rfl; have g33 := lv_neT k_33 (a := 33) rfl; have g34 := lv_neT k_34 (a := 34) rfl; have g35 := lv_neT k_35 (a := 35) rfl; have g36 := lv_neT k_36 (a := 36) rfl; have g37 := lv_neT k_37 (a := 37) rfl; have g38 := lv_neT k_38 (a := 38) rfl; omega) (by decide) ?_
      refine W.widen (k := 200 + 40 * k + 20 * jl + 20 * ll + (40 + 20 * (jl - jl) + 20 * (ll - ll))) (n := 430000 + 6000 * k + 31000 * jl + 5000 * ll + (6000 + 31000 * (jl - jl) + 5000 * (ll - ll))) (by omega) (by omega) ?_
      exact kk jl ll bs _ _ _ hI ⟨Nat.le_refl _, hj1, Nat.le_refl _, hj2⟩ hP hD hS hl
