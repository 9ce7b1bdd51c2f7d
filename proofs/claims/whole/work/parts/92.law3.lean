set_option maxRecDepth 100000 in
set_option maxHeartbeats 4000000 in
theorem law_which {p : Program} {l : Launch} {e : Env} {s : State} {m : MethodId} {below : List Frame} {meth : Method} {c : Code} {dC : Nat → ClassId} {dI : Nat → Nat → Nat} {cA : Nat → ClassId} {al : Nat → Nat} {b L : Nat} {xs : Nat → Int32} (C : LFx p s m c dC dI cA al b) (S : Scr al L xs (LA s) s) {i : Nat} (hi : i + 4 ≤ L) (hL : L ≤ 2048) {σ : St} (hI : Inv σ) (kk : ∀ τ, Inv τ → LWW p l e s m below meth c dC dI cA al b 876 (lvL i) [] τ) : LWW p l e s m below meth c dC dI cA al b 599 (lvL i) [] σ := by
  refine ww_aload_n C 2 rfl dL_law_599 ?_
  refine ww_aload_n C 3 rfl dL_law_600 ?_
  refine ww_iload_n C 0 rfl dL_law_601 ?_
  refine ww_iconst (v := 1) C dL_law_602 (by decide) ?_
  refine ww_iadd C dL_law_603 ?_
  refine ww_scr C S (sc_in hi hL 1 (by decide) (by decide)) dL_law_604 ?_
  refine ww_vi (n := 1) (As := [.int (xs (nI i + 1).toNatClampNeg)]) (rest := []) C (c_X8_which shF_ok (k_which hI _)) (shc_0 shF_ok) rfl nq_729 nq_730 nq_731 nq_2 nq_732 (by decide +kernel) rfl rfl ⟨Nat.le_of_ble_eq_true rfl, Nat.le_of_ble_eq_true rfl, Nat.le_of_ble_eq_true rfl, Nat.le_of_ble_eq_true rfl⟩ (Nat.le_of_ble_eq_true rfl) dL_law_605 (fun r1 σ1 h1 => ?_)
  refine ww_aload_n C 1 rfl dL_law_608 ?_
  refine ww_aload_n C 3 rfl dL_law_609 ?_
  refine ww_iload_n C 0 rfl dL_law_610 ?_
  refine ww_iconst (v := 1) C dL_law_611 (by decide) ?_
  refine ww_iadd C dL_law_612 ?_
  refine ww_scr C S (sc_in hi hL 1 (by decide) (by decide)) dL_law_613 ?_
  refine ww_vi (n := 1) (As := [.int (xs (nI i + 1).toNatClampNeg)]) (rest := [.int r1]) C (c_X9_which shF_ok h1) (shc_61 shF_ok) rfl nq_748 nq_749 nq_750 nq_5 nq_751 (by decide +kernel) rfl rfl ⟨Nat.le_of_ble_eq_true rfl, Nat.le_of_ble_eq_true rfl, Nat.le_of_ble_eq_true rfl, Nat.le_of_ble_eq_true rfl⟩ (Nat.le_of_ble_eq_true rfl) dL_law_614 (fun r2 σ2 h2 => ?_)
  exact ww_icmp_eq (tgt := 876) C dL_law_617 (by decide) (fun _ => kk σ2 h2.2) (fun hc => absurd h2.1 hc)
set_option maxRecDepth 100000 in
set_option maxHeartbeats 4000000 in
theorem law_share {p : Program} {l : Launch} {e : Env} {s : State} {m : MethodId} {below : List Frame} {meth : Method} {c : Code} {dC : Nat → ClassId} {dI : Nat → Nat → Nat} {cA : Nat → ClassId} {al : Nat → Nat} {b L : Nat} {xs : Nat → Int32} (C : LFx p s m c dC dI cA al b) (S : Scr al L xs (LA s) s) {i : Nat} (hi : i + 4 ≤ L) (hL : L ≤ 2048) {σ : St} (hI : Inv σ) (kk : ∀ τ, Inv τ → LWW p l e s m below meth c dC dI cA al b 876 (lvL i) [] τ) : LWW p l e s m below meth c dC dI cA al b 622 (lvL i) [] σ := by
  refine ww_aload_n C 2 rfl dL_law_622 ?_
  refine ww_aload_n C 3 rfl dL_law_623 ?_
  refine ww_iload_n C 0 rfl dL_law_624 ?_
  refine ww_iconst (v := 1) C dL_law_625 (by decide) ?_
  refine ww_iadd C dL_law_626 ?_
  refine ww_scr C S (sc_in hi hL 1 (by decide) (by decide)) dL_law_627 ?_
  refine ww_aload_n C 3 rfl dL_law_628 ?_
  refine ww_iload_n C 0 rfl dL_law_629 ?_
  refine ww_iconst (v := 2) C dL_law_630 (by decide) ?_
  refine ww_iadd C dL_law_631 ?_
  refine ww_scr C S (sc_in hi hL 2 (by decide) (by decide)) dL_law_632 ?_
  refine ww_bool (t1 := 640) (t2 := 641) C dL_law_633 (by decide) dL_law_636 dL_law_637 (by decide) dL_law_640 rfl ?_
  refine ww_vi (n := 2) (As := [.int (xs (nI i + 1).toNatClampNeg), .int ((if xs (nI i + 2).toNatClampNeg = 0 then 0 else 1))]) (rest := []) C (c_X8_share shF_ok (k_share hI _ _)) (shc_0 shF_ok) rfl nq_752 nq_753 nq_754 nq_2 nq_755 (by decide +kernel) rfl rfl ⟨Nat.le_of_ble_eq_true rfl, Nat.le_of_ble_eq_true rfl, Nat.le_of_ble_eq_true rfl, Nat.le_of_ble_eq_true rfl⟩ (Nat.le_of_ble_eq_true rfl) dL_law_641 (fun r1 σ1 h1 => ?_)
  refine ww_aload_n C 1 rfl dL_law_644 ?_
  refine ww_aload_n C 3 rfl dL_law_645 ?_
  refine ww_iload_n C 0 rfl dL_law_646 ?_
  refine ww_iconst (v := 1) C dL_law_647 (by decide) ?_
  refine ww_iadd C dL_law_648 ?_
  refine ww_scr C S (sc_in hi hL 1 (by decide) (by decide)) dL_law_649 ?_
  refine ww_aload_n C 3 rfl dL_law_650 ?_
  refine ww_iload_n C 0 rfl dL_law_651 ?_
  refine ww_iconst (v := 2) C dL_law_652 (by decide) ?_
  refine ww_iadd C dL_law_653 ?_
  refine ww_scr C S (sc_in hi hL 2 (by decide) (by decide)) dL_law_654 ?_
  refine ww_bool (t1 := 662) (t2 := 663) C dL_law_655 (by decide) dL_law_658 dL_law_659 (by decide) dL_law_662 rfl ?_
  refine ww_vi (n := 2) (As := [.int (xs (nI i + 1).toNatClampNeg), .int ((if xs (nI i + 2).toNatClampNeg = 0 then 0 else 1))]) (rest := [.int r1]) C (c_X9_share shF_ok h1) (shc_61 shF_ok) rfl nq_776 nq_777 nq_778 nq_5 nq_779 (by decide +kernel) rfl rfl ⟨Nat.le_of_ble_eq_true rfl, Nat.le_of_ble_eq_true rfl, Nat.le_of_ble_eq_true rfl, Nat.le_of_ble_eq_true rfl⟩ (Nat.le_of_ble_eq_true rfl) dL_law_663 (fun r2 σ2 h2 => ?_)
  exact ww_icmp_eq (tgt := 876) C dL_law_666 (by decide) (fun _ => kk σ2 h2.2) (fun hc => absurd h2.1 hc)
set_option maxRecDepth 100000 in
set_option maxHeartbeats 4000000 in
theorem law_lost {p : Program} {l : Launch} {e : Env} {s : State} {m : MethodId} {below : List Frame} {meth : Method} {c : Code} {dC : Nat → ClassId} {dI : Nat → Nat → Nat} {cA : Nat → ClassId} {al : Nat → Nat} {b L : Nat} {xs : Nat → Int32} (C : LFx p s m c dC dI cA al b) (S : Scr al L xs (LA s) s) {i : Nat} (hi : i + 4 ≤ L) (hL : L ≤ 2048) {σ : St} (hI : Inv σ) (kk : ∀ τ, Inv τ → LWW p l e s m below meth c dC dI cA al b 876 (lvL i) [] τ) : LWW p l e s m below meth c dC dI cA al b 671 (lvL i) [] σ := by
  refine ww_aload_n C 2 rfl dL_law_671 ?_
  refine ww_aload_n C 3 rfl dL_law_672 ?_
  refine ww_iload_n C 0 rfl dL_law_673 ?_
  refine ww_iconst (v := 1) C dL_law_674 (by decide) ?_
  refine ww_iadd C dL_law_675 ?_
  refine ww_scr C S (sc_in hi hL 1 (by decide) (by decide)) dL_law_676 ?_
  refine ww_aload_n C 3 rfl dL_law_677 ?_
  refine ww_iload_n C 0 rfl dL_law_678 ?_
  refine ww_iconst (v := 2) C dL_law_679 (by decide) ?_
  refine ww_iadd C dL_law_680 ?_
  refine ww_scr C S (sc_in hi hL 2 (by decide) (by decide)) dL_law_681 ?_
  refine ww_aload_n C 3 rfl dL_law_682 ?_
  refine ww_iload_n C 0 rfl dL_law_683 ?_
  refine ww_iconst (v := 3) C dL_law_684 (by decide) ?_
  refine ww_iadd C dL_law_685 ?_
  refine ww_scr C S (sc_in hi hL 3 (by decide) (by decide)) dL_law_686 ?_
  refine ww_bool (t1 := 694) (t2 := 695) C dL_law_687 (by decide) dL_law_690 dL_law_691 (by decide) dL_law_694 rfl ?_
  refine ww_vi (n := 3) (As := [.int (xs (nI i + 1).toNatClampNeg), .int (xs (nI i + 2).toNatClampNeg), .int ((if xs (nI i + 3).toNatClampNeg = 0 then 0 else 1))]) (rest := []) C (c_X8_lost shF_ok (k_lost hI _ _ _)) (shc_0 shF_ok) rfl nq_789 nq_790 nq_791 nq_2 nq_792 (by decide +kernel) rfl rfl ⟨Nat.le_of_ble_eq_true rfl, Nat.le_of_ble_eq_true rfl, Nat.le_of_ble_eq_true rfl, Nat.le_of_ble_eq_true rfl⟩ (Nat.le_of_ble_eq_true rfl) dL_law_695 (fun r1 σ1 h1 => ?_)
  refine ww_aload_n C 1 rfl dL_law_698 ?_
  refine ww_aload_n C 3 rfl dL_law_699 ?_
  refine ww_iload_n C 0 rfl dL_law_700 ?_
  refine ww_iconst (v := 1) C dL_law_701 (by decide) ?_
  refine ww_iadd C dL_law_702 ?_
  refine ww_scr C S (sc_in hi hL 1 (by decide) (by decide)) dL_law_703 ?_
  refine ww_aload_n C 3 rfl dL_law_704 ?_
  refine ww_iload_n C 0 rfl dL_law_705 ?_
  refine ww_iconst (v := 2) C dL_law_706 (by decide) ?_
  refine ww_iadd C dL_law_707 ?_
  refine ww_scr C S (sc_in hi hL 2 (by decide) (by decide)) dL_law_708 ?_
  refine ww_aload_n C 3 rfl dL_law_709 ?_
  refine ww_iload_n C 0 rfl dL_law_710 ?_
  refine ww_iconst (v := 3) C dL_law_711 (by decide) ?_
  refine ww_iadd C dL_law_712 ?_
  refine ww_scr C S (sc_in hi hL 3 (by decide) (by decide)) dL_law_713 ?_
  refine ww_bool (t1 := 721) (t2 := 722) C dL_law_714 (by decide) dL_law_717 dL_law_718 (by decide) dL_law_721 rfl ?_
  refine ww_vi (n := 3) (As := [.int (xs (nI i + 1).toNatClampNeg), .int (xs (nI i + 2).toNatClampNeg), .int ((if xs (nI i + 3).toNatClampNeg = 0 then 0 else 1))]) (rest := [.int r1]) C (c_X9_lost shF_ok h1) (shc_61 shF_ok) rfl nq_815 nq_816 nq_817 nq_5 nq_818 (by decide +kernel) rfl rfl ⟨Nat.le_of_ble_eq_true rfl, Nat.le_of_ble_eq_true rfl, Nat.le_of_ble_eq_true rfl, Nat.le_of_ble_eq_true rfl⟩ (Nat.le_of_ble_eq_true rfl) dL_law_722 (fun r2 σ2 h2 => ?_)
  exact ww_icmp_eq (tgt := 876) C dL_law_725 (by decide) (fun _ => kk σ2 h2.2) (fun hc => absurd h2.1 hc)
set_option maxRecDepth 100000 in
set_option maxHeartbeats 4000000 in
theorem law_seed {p : Program} {l : Launch} {e : Env} {s : State} {m : MethodId} {below : List Frame} {meth : Method} {c : Code} {dC : Nat → ClassId} {dI : Nat → Nat → Nat} {cA : Nat → ClassId} {al : Nat → Nat} {b L : Nat} {xs : Nat → Int32} (C : LFx p s m c dC dI cA al b) (S : Scr al L xs (LA s) s) {i : Nat} (hi : i + 4 ≤ L) (hL : L ≤ 2048) {σ : St} (hI : Inv σ) (kk : ∀ τ, Inv τ → LWW p l e s m below meth c dC dI cA al b 876 (lvL i) [] τ) : LWW p l e s m below meth c dC dI cA al b 730 (lvL i) [] σ := by
  refine ww_aload_n C 2 rfl dL_law_730 ?_
  refine ww_aload_n C 3 rfl dL_law_731 ?_
  refine ww_iload_n C 0 rfl dL_law_732 ?_
  refine ww_iconst (v := 1) C dL_law_733 (by decide) ?_
  refine ww_iadd C dL_law_734 ?_
  refine ww_scr C S (sc_in hi hL 1 (by decide) (by decide)) dL_law_735 ?_
  refine ww_i2l C dL_law_736 ?_
  refine ww_bipush (v := 32) C dL_law_737 (by decide) ?_
  refine ww_lshl C dL_law_739 ?_
  refine ww_aload_n C 3 rfl dL_law_740 ?_
  refine ww_iload_n C 0 rfl dL_law_741 ?_
  refine ww_iconst (v := 2) C dL_law_742 (by decide) ?_
  refine ww_iadd C dL_law_743 ?_
  refine ww_scr C S (sc_in hi hL 2 (by decide) (by decide)) dL_law_744 ?_
  refine ww_i2l C dL_law_745 ?_
  refine ww_ldc2 (v := 4294967295) C nq_6 dL_law_746 ?_
  refine ww_land C dL_law_749 ?_
  refine ww_lor C dL_law_750 ?_
  refine ww_vl (n := 1) (As := [.long ((((xs (nI i + 1).toNatClampNeg).toInt64 <<< ((32 : Int32).toInt64 &&& 63)) ||| ((xs (nI i + 2).toNatClampNeg).toInt64 &&& 4294967295)))]) (rest := []) C (c_X8_seed shF_ok (k_seed hI _)) (shc_0 shF_ok) rfl nq_820 nq_821 nq_822 nq_2 nq_823 (by decide +kernel) rfl rfl ⟨Nat.le_of_ble_eq_true rfl, Nat.le_of_ble_eq_true rfl, Nat.le_of_ble_eq_true rfl, Nat.le_of_ble_eq_true rfl⟩ (Nat.le_of_ble_eq_true rfl) dL_law_751 (fun r1 σ1 h1 => ?_)
  refine ww_aload_n C 1 rfl dL_law_754 ?_
  refine ww_aload_n C 3 rfl dL_law_755 ?_
  refine ww_iload_n C 0 rfl dL_law_756 ?_
  refine ww_iconst (v := 1) C dL_law_757 (by decide) ?_
  refine ww_iadd C dL_law_758 ?_
  refine ww_scr C S (sc_in hi hL 1 (by decide) (by decide)) dL_law_759 ?_
  refine ww_i2l C dL_law_760 ?_
  refine ww_bipush (v := 32) C dL_law_761 (by decide) ?_
  refine ww_lshl C dL_law_763 ?_
  refine ww_aload_n C 3 rfl dL_law_764 ?_
  refine ww_iload_n C 0 rfl dL_law_765 ?_
  refine ww_iconst (v := 2) C dL_law_766 (by decide) ?_
  refine ww_iadd C dL_law_767 ?_
  refine ww_scr C S (sc_in hi hL 2 (by decide) (by decide)) dL_law_768 ?_
  refine ww_i2l C dL_law_769 ?_
  refine ww_ldc2 (v := 4294967295) C nq_6 dL_law_770 ?_
  refine ww_land C dL_law_773 ?_
  refine ww_lor C dL_law_774 ?_
  refine ww_vl (n := 1) (As := [.long ((((xs (nI i + 1).toNatClampNeg).toInt64 <<< ((32 : Int32).toInt64 &&& 63)) ||| ((xs (nI i + 2).toNatClampNeg).toInt64 &&& 4294967295)))]) (rest := [.long r1]) C (c_X9_seed shF_ok h1) (shc_61 shF_ok) rfl nq_824 nq_825 nq_826 nq_5 nq_827 (by decide +kernel) rfl rfl ⟨Nat.le_of_ble_eq_true rfl, Nat.le_of_ble_eq_true rfl, Nat.le_of_ble_eq_true rfl, Nat.le_of_ble_eq_true rfl⟩ (Nat.le_of_ble_eq_true rfl) dL_law_775 (fun r2 σ2 h2 => ?_)
  refine ww_lcmp C dL_law_778 ?_
  exact ww_if_eq (tgt := 876) C dL_law_779 (by decide) (fun _ => kk σ2 h2.2) (fun hc => absurd ((lg_cmp_eq r1 r2).mpr h2.1) hc)
set_option maxRecDepth 100000 in
set_option maxHeartbeats 4000000 in
theorem law_drawn {p : Program} {l : Launch} {e : Env} {s : State} {m : MethodId} {below : List Frame} {meth : Method} {c : Code} {dC : Nat → ClassId} {dI : Nat → Nat → Nat} {cA : Nat → ClassId} {al : Nat → Nat} {b L : Nat} {xs : Nat → Int32} (C : LFx p s m c dC dI cA al b) (S : Scr al L xs (LA s) s) {i : Nat} (hi : i + 4 ≤ L) (hL : L ≤ 2048) {σ : St} (hI : Inv σ) (kk : ∀ τ, Inv τ → LWW p l e s m below meth c dC dI cA al b 876 (lvL i) [] τ) : LWW p l e s m below meth c dC dI cA al b 784 (lvL i) [] σ := by
  refine ww_aload_n C 2 rfl dL_law_784 ?_
  refine ww_aload_n C 3 rfl dL_law_785 ?_
  refine ww_iload_n C 0 rfl dL_law_786 ?_
  refine ww_iconst (v := 1) C dL_law_787 (by decide) ?_
  refine ww_iadd C dL_law_788 ?_
  refine ww_scr C S (sc_in hi hL 1 (by decide) (by decide)) dL_law_789 ?_
  refine ww_vi (n := 1) (As := [.int (xs (nI i + 1).toNatClampNeg)]) (rest := []) C (c_X8_drawn shF_ok (k_drawn hI _)) (shc_0 shF_ok) rfl nq_829 nq_830 nq_831 nq_2 nq_832 (by decide +kernel) rfl rfl ⟨Nat.le_of_ble_eq_true rfl, Nat.le_of_ble_eq_true rfl, Nat.le_of_ble_eq_true rfl, Nat.le_of_ble_eq_true rfl⟩ (Nat.le_of_ble_eq_true rfl) dL_law_790 (fun r1 σ1 h1 => ?_)
  refine ww_aload_n C 1 rfl dL_law_793 ?_
  refine ww_aload_n C 3 rfl dL_law_794 ?_
  refine ww_iload_n C 0 rfl dL_law_795 ?_
  refine ww_iconst (v := 1) C dL_law_796 (by decide) ?_
  refine ww_iadd C dL_law_797 ?_
  refine ww_scr C S (sc_in hi hL 1 (by decide) (by decide)) dL_law_798 ?_
  refine ww_vi (n := 1) (As := [.int (xs (nI i + 1).toNatClampNeg)]) (rest := [.int r1]) C (c_X9_drawn shF_ok h1) (shc_61 shF_ok) rfl nq_842 nq_843 nq_844 nq_5 nq_845 (by decide +kernel) rfl rfl ⟨Nat.le_of_ble_eq_true rfl, Nat.le_of_ble_eq_true rfl, Nat.le_of_ble_eq_true rfl, Nat.le_of_ble_eq_true rfl⟩ (Nat.le_of_ble_eq_true rfl) dL_law_799 (fun r2 σ2 h2 => ?_)
  exact ww_icmp_eq (tgt := 876) C dL_law_802 (by decide) (fun _ => kk σ2 h2.2) (fun hc => absurd h2.1 hc)
set_option maxRecDepth 100000 in
set_option maxHeartbeats 4000000 in
theorem law_keep {p : Program} {l : Launch} {e : Env} {s : State} {m : MethodId} {below : List Frame} {meth : Method} {c : Code} {dC : Nat → ClassId} {dI : Nat → Nat → Nat} {cA : Nat → ClassId} {al : Nat → Nat} {b L : Nat} {xs : Nat → Int32} (C : LFx p s m c dC dI cA al b) (S : Scr al L xs (LA s) s) {i : Nat} (hi : i + 4 ≤ L) (hL : L ≤ 2048) {σ : St} (hI : Inv σ) (kk : ∀ τ, Inv τ → LWW p l e s m below meth c dC dI cA al b 876 (lvL i) [] τ) : LWW p l e s m below meth c dC dI cA al b 807 (lvL i) [] σ := by
  refine ww_aload_n C 2 rfl dL_law_807 ?_
  refine ww_aload_n C 3 rfl dL_law_808 ?_
  refine ww_iload_n C 0 rfl dL_law_809 ?_
  refine ww_iconst (v := 1) C dL_law_810 (by decide) ?_
  refine ww_iadd C dL_law_811 ?_
  refine ww_scr C S (sc_in hi hL 1 (by decide) (by decide)) dL_law_812 ?_
  refine ww_vi (n := 1) (As := [.int (xs (nI i + 1).toNatClampNeg)]) (rest := []) C (c_X8_keep shF_ok (k_keep hI _)) (shc_0 shF_ok) rfl nq_849 nq_850 nq_851 nq_2 nq_852 (by decide +kernel) rfl rfl ⟨Nat.le_of_ble_eq_true rfl, Nat.le_of_ble_eq_true rfl, Nat.le_of_ble_eq_true rfl, Nat.le_of_ble_eq_true rfl⟩ (Nat.le_of_ble_eq_true rfl) dL_law_813 (fun r1 σ1 h1 => ?_)
  refine ww_aload_n C 1 rfl dL_law_816 ?_
  refine ww_aload_n C 3 rfl dL_law_817 ?_
  refine ww_iload_n C 0 rfl dL_law_818 ?_
  refine ww_iconst (v := 1) C dL_law_819 (by decide) ?_
  refine ww_iadd C dL_law_820 ?_
  refine ww_scr C S (sc_in hi hL 1 (by decide) (by decide)) dL_law_821 ?_
  refine ww_vi (n := 1) (As := [.int (xs (nI i + 1).toNatClampNeg)]) (rest := [.int r1]) C (c_X9_keep shF_ok h1) (shc_61 shF_ok) rfl nq_853 nq_854 nq_855 nq_5 nq_856 (by decide +kernel) rfl rfl ⟨Nat.le_of_ble_eq_true rfl, Nat.le_of_ble_eq_true rfl, Nat.le_of_ble_eq_true rfl, Nat.le_of_ble_eq_true rfl⟩ (Nat.le_of_ble_eq_true rfl) dL_law_822 (fun r2 σ2 h2 => ?_)
  exact ww_icmp_eq (tgt := 876) C dL_law_825 (by decide) (fun _ => kk σ2 h2.2) (fun hc => absurd h2.1 hc)
set_option maxRecDepth 100000 in
set_option maxHeartbeats 4000000 in
theorem law_again {p : Program} {l : Launch} {e : Env} {s : State} {m : MethodId} {below : List Frame} {meth : Method} {c : Code} {dC : Nat → ClassId} {dI : Nat → Nat → Nat} {cA : Nat → ClassId} {al : Nat → Nat} {b L : Nat} {xs : Nat → Int32} (C : LFx p s m c dC dI cA al b) (S : Scr al L xs (LA s) s) {i : Nat} (hi : i + 4 ≤ L) (hL : L ≤ 2048) {σ : St} (hI : Inv σ) (kk : ∀ τ, Inv τ → LWW p l e s m below meth c dC dI cA al b 876 (lvL i) [] τ) : LWW p l e s m below meth c dC dI cA al b 830 (lvL i) [] σ := by
  refine ww_aload_n C 2 rfl dL_law_830 ?_
  refine ww_aload_n C 3 rfl dL_law_831 ?_
  refine ww_iload_n C 0 rfl dL_law_832 ?_
  refine ww_iconst (v := 1) C dL_law_833 (by decide) ?_
  refine ww_iadd C dL_law_834 ?_
  refine ww_scr C S (sc_in hi hL 1 (by decide) (by decide)) dL_law_835 ?_
  refine ww_vi (n := 1) (As := [.int (xs (nI i + 1).toNatClampNeg)]) (rest := []) C (c_X8_again shF_ok (k_again hI _)) (shc_0 shF_ok) rfl nq_857 nq_858 nq_859 nq_2 nq_860 (by decide +kernel) rfl rfl ⟨Nat.le_of_ble_eq_true rfl, Nat.le_of_ble_eq_true rfl, Nat.le_of_ble_eq_true rfl, Nat.le_of_ble_eq_true rfl⟩ (Nat.le_of_ble_eq_true rfl) dL_law_836 (fun r1 σ1 h1 => ?_)
  refine ww_aload_n C 1 rfl dL_law_839 ?_
  refine ww_aload_n C 3 rfl dL_law_840 ?_
  refine ww_iload_n C 0 rfl dL_law_841 ?_
  refine ww_iconst (v := 1) C dL_law_842 (by decide) ?_
  refine ww_iadd C dL_law_843 ?_
  refine ww_scr C S (sc_in hi hL 1 (by decide) (by decide)) dL_law_844 ?_
  refine ww_vi (n := 1) (As := [.int (xs (nI i + 1).toNatClampNeg)]) (rest := [.int r1]) C (c_X9_again shF_ok h1) (shc_61 shF_ok) rfl nq_861 nq_862 nq_863 nq_5 nq_864 (by decide +kernel) rfl rfl ⟨Nat.le_of_ble_eq_true rfl, Nat.le_of_ble_eq_true rfl, Nat.le_of_ble_eq_true rfl, Nat.le_of_ble_eq_true rfl⟩ (Nat.le_of_ble_eq_true rfl) dL_law_845 (fun r2 σ2 h2 => ?_)
  exact ww_icmp_eq (tgt := 876) C dL_law_848 (by decide) (fun _ => kk σ2 h2.2) (fun hc => absurd h2.1 hc)
set_option maxRecDepth 100000 in
set_option maxHeartbeats 4000000 in
theorem law_count {p : Program} {l : Launch} {e : Env} {s : State} {m : MethodId} {below : List Frame} {meth : Method} {c : Code} {dC : Nat → ClassId} {dI : Nat → Nat → Nat} {cA : Nat → ClassId} {al : Nat → Nat} {b L : Nat} {xs : Nat → Int32} (C : LFx p s m c dC dI cA al b) (S : Scr al L xs (LA s) s) {i : Nat} (hi : i + 4 ≤ L) (hL : L ≤ 2048) {σ : St} (hI : Inv σ) (kk : ∀ τ, Inv τ → LWW p l e s m below meth c dC dI cA al b 876 (lvL i) [] τ) : LWW p l e s m below meth c dC dI cA al b 853 (lvL i) [] σ := by
  refine ww_aload_n C 2 rfl dL_law_853 ?_
  refine ww_aload_n C 3 rfl dL_law_854 ?_
  refine ww_iload_n C 0 rfl dL_law_855 ?_
  refine ww_iconst (v := 1) C dL_law_856 (by decide) ?_
  refine ww_iadd C dL_law_857 ?_
  refine ww_scr C S (sc_in hi hL 1 (by decide) (by decide)) dL_law_858 ?_
  refine ww_vi (n := 1) (As := [.int (xs (nI i + 1).toNatClampNeg)]) (rest := []) C (c_X8_count shF_ok (k_count hI _)) (shc_0 shF_ok) rfl nq_865 nq_866 nq_867 nq_2 nq_868 (by decide +kernel) rfl rfl ⟨Nat.le_of_ble_eq_true rfl, Nat.le_of_ble_eq_true rfl, Nat.le_of_ble_eq_true rfl, Nat.le_of_ble_eq_true rfl⟩ (Nat.le_of_ble_eq_true rfl) dL_law_859 (fun r1 σ1 h1 => ?_)
  refine ww_aload_n C 1 rfl dL_law_862 ?_
  refine ww_aload_n C 3 rfl dL_law_863 ?_
  refine ww_iload_n C 0 rfl dL_law_864 ?_
  refine ww_iconst (v := 1) C dL_law_865 (by decide) ?_
  refine ww_iadd C dL_law_866 ?_
  refine ww_scr C S (sc_in hi hL 1 (by decide) (by decide)) dL_law_867 ?_
  refine ww_vi (n := 1) (As := [.int (xs (nI i + 1).toNatClampNeg)]) (rest := [.int r1]) C (c_X9_count shF_ok h1) (shc_61 shF_ok) rfl nq_876 nq_877 nq_878 nq_5 nq_879 (by decide +kernel) rfl rfl ⟨Nat.le_of_ble_eq_true rfl, Nat.le_of_ble_eq_true rfl, Nat.le_of_ble_eq_true rfl, Nat.le_of_ble_eq_true rfl⟩ (Nat.le_of_ble_eq_true rfl) dL_law_868 (fun r2 σ2 h2 => ?_)
  exact ww_icmp_eq (tgt := 876) C dL_law_871 (by decide) (fun _ => kk σ2 h2.2) (fun hc => absurd h2.1 hc)
