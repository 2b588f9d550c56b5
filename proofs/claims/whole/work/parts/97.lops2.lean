/-! the law's calls, 2 -/
section LO
variable {G : LX} {i : Int} {S : ST} {ν : Nat → Nat → Option Nat} {μ : Nat → Nat → Int} {k n : Nat}
theorem lo_drawn (hC : lC G) (hL : G.L ≤ 3072) (hi : 0 ≤ i ∧ i ≤ (G.L : Int) - 6) (hk : k ≤ 600000) (hn : n ≤ 7302250) (hw : Wd S ν μ) (K : ∀ S' ν' μ', Wd S' ν' μ' → LJ G 1039 (lLS i) [] SH ν' μ' k n) : LJ G 720 (lLS i) [] SH ν μ k n := by
  obtain ⟨hS, HM, f, s, hW, HX⟩ := hw
  refine LJ.aload_n (pc := 720) (i := 1) 2 hC d_law_720 rfl rfl ?_
  refine LJ.callV (pc := 721) (vs := []) (st := []) hC d_law_721 rfl okM_X9_drawn rfl lk_L_70 inst_X9_drawn sel_X9_drawn sh_9 rfl ⟨⟨Nat.le_of_ble_eq_true rfl, Nat.le_of_ble_eq_true rfl⟩, ⟨hk, hn⟩, Nat.le_of_ble_eq_true rfl⟩ (Nat.le_of_ble_eq_true rfl) (xo_drawn hW HX fun f s ν μ1 hW HX1 fr => ?_)
  have HM := MS_lift fr HM
  refine LJ.nrm (pc' := 724) (ls' := lLS i) (st' := [(vI (ansDrawn (sF S)))]) (k' := k) (n' := n) rfl rfl rfl rfl rfl ?_
  refine LJ.aload_n (pc := 724) (i := 2) 1 hC d_law_724 rfl rfl ?_
  refine LJ.callV (pc := 725) (vs := []) (st := [(vI (ansDrawn (sF S)))]) hC d_law_725 rfl okM_X10_drawn rfl lk_L_73 inst_X10_drawn sel_X10_drawn sh_10 rfl ⟨⟨Nat.le_of_ble_eq_true rfl, Nat.le_of_ble_eq_true rfl⟩, ⟨hk, hn⟩, Nat.le_of_ble_eq_true rfl⟩ (Nat.le_of_ble_eq_true rfl) (mo_drawn hW HM fun μ2 HM2 fr2 => ?_)
  refine LJ.nrm (pc' := 728) (ls' := lLS i) (st' := [(vI (ansDrawn (sF S))), (vI (ansDrawn (sF S)))]) (k' := k) (n' := n) rfl rfl rfl rfl rfl ?_
  refine LJ.same (pc := 728) 1039 hC d_law_728 (by decide) ?_
  exact K S ν μ2 ⟨hS, HM2, _, _, hW, XS_lift fr2 (wf_f hW) (hS).1.1 HX1⟩
theorem lo_fault (hC : lC G) (hL : G.L ≤ 3072) (hi : 0 ≤ i ∧ i ≤ (G.L : Int) - 6) (hk : k ≤ 600000) (hn : n ≤ 7302250) (hw : Wd S ν μ) (K : ∀ S' ν' μ', Wd S' ν' μ' → LJ G 1039 (lLS i) [] SH ν' μ' k n) : LJ G 733 (lLS i) [] SH ν μ k n := by
  obtain ⟨hS, HM, f, s, hW, HX⟩ := hw
  refine LJ.aload_n (pc := 733) (i := 1) 2 hC d_law_733 rfl rfl ?_
  refine LJ.callV (pc := 734) (vs := []) (st := []) hC d_law_734 rfl okM_X9_fault rfl lk_L_74 inst_X9_fault sel_X9_fault sh_9 rfl ⟨⟨Nat.le_of_ble_eq_true rfl, Nat.le_of_ble_eq_true rfl⟩, ⟨hk, hn⟩, Nat.le_of_ble_eq_true rfl⟩ (Nat.le_of_ble_eq_true rfl) (xo_fault hW HX fun f s ν μ1 hW HX1 fr => ?_)
  have HM := MS_lift fr HM
  refine LJ.nrm (pc' := 737) (ls' := lLS i) (st' := [(vI (sK S))]) (k' := k) (n' := n) rfl rfl rfl rfl rfl ?_
  refine LJ.aload_n (pc := 737) (i := 2) 1 hC d_law_737 rfl rfl ?_
  refine LJ.callV (pc := 738) (vs := []) (st := [(vI (sK S))]) hC d_law_738 rfl okM_X10_fault rfl lk_L_77 inst_X10_fault sel_X10_fault sh_10 rfl ⟨⟨Nat.le_of_ble_eq_true rfl, Nat.le_of_ble_eq_true rfl⟩, ⟨hk, hn⟩, Nat.le_of_ble_eq_true rfl⟩ (Nat.le_of_ble_eq_true rfl) (mo_fault hW HM fun μ2 HM2 fr2 => ?_)
  refine LJ.nrm (pc' := 741) (ls' := lLS i) (st' := [(vI (sK S)), (vI (sK S))]) (k' := k) (n' := n) rfl rfl rfl rfl rfl ?_
  refine LJ.same (pc := 741) 1039 hC d_law_741 (by decide) ?_
  exact K S ν μ2 ⟨hS, HM2, _, _, hW, XS_lift fr2 (wf_f hW) (hS).1.1 HX1⟩
theorem lo_take (hC : lC G) (hL : G.L ≤ 3072) (hi : 0 ≤ i ∧ i ≤ (G.L : Int) - 6) (hk : k ≤ 600000) (hn : n ≤ 7302250) (hw : Wd S ν μ) (K : ∀ S' ν' μ', Wd S' ν' μ' → LJ G 1039 (lLS i) [] SH ν' μ' k n) : LJ G 746 (lLS i) [] SH ν μ k n := by
  obtain ⟨hS, HM, f, s, hW, HX⟩ := hw
  refine LJ.aload_n (pc := 746) (i := 1) 2 hC d_law_746 rfl rfl ?_
  refine LJ.callV (pc := 747) (vs := []) (st := []) hC d_law_747 rfl okM_X9_take rfl lk_L_78 inst_X9_take sel_X9_take sh_9 rfl ⟨⟨Nat.le_of_ble_eq_true rfl, Nat.le_of_ble_eq_true rfl⟩, ⟨hk, hn⟩, Nat.le_of_ble_eq_true rfl⟩ (Nat.le_of_ble_eq_true rfl) (xo_take hW hS HX fun f s ν μ1 hW HX1 fr => ?_)
  have HM := MS_lift fr HM
  refine LJ.nrm (pc' := 750) (ls' := lLS i) (st' := [(vI (oTake S).1)]) (k' := k) (n' := n) rfl rfl rfl rfl rfl ?_
  refine LJ.aload_n (pc := 750) (i := 2) 1 hC d_law_750 rfl rfl ?_
  refine LJ.callV (pc := 751) (vs := []) (st := [(vI (oTake S).1)]) hC d_law_751 rfl okM_X10_take rfl lk_L_81 inst_X10_take sel_X10_take sh_10 rfl ⟨⟨Nat.le_of_ble_eq_true rfl, Nat.le_of_ble_eq_true rfl⟩, ⟨hk, hn⟩, Nat.le_of_ble_eq_true rfl⟩ (Nat.le_of_ble_eq_true rfl) (mo_take hW hS HM fun μ2 HM2 fr2 => ?_)
  refine LJ.nrm (pc' := 754) (ls' := lLS i) (st' := [(vI (oTake S).1), (vI (oTake S).1)]) (k' := k) (n' := n) rfl rfl rfl rfl rfl ?_
  refine LJ.same (pc := 754) 1039 hC d_law_754 (by decide) ?_
  exact K (oTake S).2 ν μ2 ⟨(okS_take hS), HM2, _, _, hW, XS_lift fr2 (wf_f hW) (okS_take (S := S) hS).1.1 HX1⟩
theorem lo_ways (hC : lC G) (hL : G.L ≤ 3072) (hi : 0 ≤ i ∧ i ≤ (G.L : Int) - 6) (hk : k ≤ 600000) (hn : n ≤ 7302250) (hw : Wd S ν μ) (K : ∀ S' ν' μ', Wd S' ν' μ' → LJ G 1039 (lLS i) [] SH ν' μ' k n) : LJ G 759 (lLS i) [] SH ν μ k n := by
  obtain ⟨hS, HM, f, s, hW, HX⟩ := hw
  refine LJ.aload_n (pc := 759) (i := 1) 2 hC d_law_759 rfl rfl ?_
  refine LJ.arg (pc := 760) (z := 1) (y := wv G i 1) 0 hC d_law_760 d_law_761 d_law_762 d_law_763 d_law_764 ⟨by decide, by decide⟩ rfl (by omega) hL rfl ?_
  refine LJ.arg (pc := 765) (z := 2) (y := wv G i 2) 0 hC d_law_765 d_law_766 d_law_767 d_law_768 d_law_769 ⟨by decide, by decide⟩ rfl (by omega) hL rfl ?_
  refine LJ.arg (pc := 770) (z := 3) (y := wv G i 3) 0 hC d_law_770 d_law_771 d_law_772 d_law_773 d_law_774 ⟨by decide, by decide⟩ rfl (by omega) hL rfl ?_
  refine LJ.callV (pc := 775) (vs := [vI (wv G i 1), vI (wv G i 2), vI (wv G i 3)]) (st := []) hC d_law_775 rfl okM_X9_ways rfl lk_L_82 inst_X9_ways sel_X9_ways sh_9 rfl ⟨⟨Nat.le_of_ble_eq_true rfl, Nat.le_of_ble_eq_true rfl⟩, ⟨hk, hn⟩, Nat.le_of_ble_eq_true rfl⟩ (Nat.le_of_ble_eq_true rfl) (xo_ways hW hS HX fun f s ν μ1 hW HX1 fr => ?_)
  have HM := MS_lift fr HM
  refine LJ.nrm (pc' := 778) (ls' := lLS i) (st' := [(vL (ansWays (sN S) (sR S) (wv G i 1) (wv G i 2) (wv G i 3)))]) (k' := k) (n' := n) rfl rfl rfl rfl rfl ?_
  refine LJ.aload_n (pc := 778) (i := 2) 1 hC d_law_778 rfl rfl ?_
  refine LJ.arg (pc := 779) (z := 1) (y := wv G i 1) 0 hC d_law_779 d_law_780 d_law_781 d_law_782 d_law_783 ⟨by decide, by decide⟩ rfl (by omega) hL rfl ?_
  refine LJ.arg (pc := 784) (z := 2) (y := wv G i 2) 0 hC d_law_784 d_law_785 d_law_786 d_law_787 d_law_788 ⟨by decide, by decide⟩ rfl (by omega) hL rfl ?_
  refine LJ.arg (pc := 789) (z := 3) (y := wv G i 3) 0 hC d_law_789 d_law_790 d_law_791 d_law_792 d_law_793 ⟨by decide, by decide⟩ rfl (by omega) hL rfl ?_
  refine LJ.callV (pc := 794) (vs := [vI (wv G i 1), vI (wv G i 2), vI (wv G i 3)]) (st := [(vL (ansWays (sN S) (sR S) (wv G i 1) (wv G i 2) (wv G i 3)))]) hC d_law_794 rfl okM_X10_ways rfl lk_L_86 inst_X10_ways sel_X10_ways sh_10 rfl ⟨⟨Nat.le_of_ble_eq_true rfl, Nat.le_of_ble_eq_true rfl⟩, ⟨hk, hn⟩, Nat.le_of_ble_eq_true rfl⟩ (Nat.le_of_ble_eq_true rfl) (mo_ways hW hS HM fun μ2 HM2 fr2 => ?_)
  refine LJ.nrm (pc' := 797) (ls' := lLS i) (st' := [(vL (ansWays (sN S) (sR S) (wv G i 1) (wv G i 2) (wv G i 3))), (vL (ansWays (sN S) (sR S) (wv G i 1) (wv G i 2) (wv G i 3)))]) (k' := k) (n' := n) rfl rfl rfl rfl rfl ?_
  refine LJ.sameL (pc := 797) 1039 hC d_law_797 d_law_798 (by decide) ?_
  exact K S ν μ2 ⟨hS, HM2, _, _, hW, XS_lift fr2 (wf_f hW) (hS).1.1 HX1⟩
theorem lo_least (hC : lC G) (hL : G.L ≤ 3072) (hi : 0 ≤ i ∧ i ≤ (G.L : Int) - 6) (hk : k ≤ 600000) (hn : n ≤ 7302250) (hw : Wd S ν μ) (K : ∀ S' ν' μ', Wd S' ν' μ' → LJ G 1039 (lLS i) [] SH ν' μ' k n) : LJ G 803 (lLS i) [] SH ν μ k n := by
  obtain ⟨hS, HM, f, s, hW, HX⟩ := hw
  refine LJ.aload_n (pc := 803) (i := 1) 2 hC d_law_803 rfl rfl ?_
  refine LJ.arg (pc := 804) (z := 1) (y := wv G i 1) 0 hC d_law_804 d_law_805 d_law_806 d_law_807 d_law_808 ⟨by decide, by decide⟩ rfl (by omega) hL rfl ?_
  refine LJ.arg (pc := 809) (z := 2) (y := wv G i 2) 0 hC d_law_809 d_law_810 d_law_811 d_law_812 d_law_813 ⟨by decide, by decide⟩ rfl (by omega) hL rfl ?_
  refine LJ.arg (pc := 814) (z := 3) (y := wv G i 3) 0 hC d_law_814 d_law_815 d_law_816 d_law_817 d_law_818 ⟨by decide, by decide⟩ rfl (by omega) hL rfl ?_
  refine LJ.callV (pc := 819) (vs := [vI (wv G i 1), vI (wv G i 2), vI (wv G i 3)]) (st := []) hC d_law_819 rfl okM_X9_least rfl lk_L_87 inst_X9_least sel_X9_least sh_9 rfl ⟨⟨Nat.le_of_ble_eq_true rfl, Nat.le_of_ble_eq_true rfl⟩, ⟨hk, hn⟩, Nat.le_of_ble_eq_true rfl⟩ (Nat.le_of_ble_eq_true rfl) (xo_least hW hS HX fun f s ν μ1 hW HX1 fr => ?_)
  have HM := MS_lift fr HM
  refine LJ.nrm (pc' := 822) (ls' := lLS i) (st' := [(vI (ansLeast (sN S) (sR S) (wv G i 1) (wv G i 2) (wv G i 3)))]) (k' := k) (n' := n) rfl rfl rfl rfl rfl ?_
  refine LJ.aload_n (pc := 822) (i := 2) 1 hC d_law_822 rfl rfl ?_
  refine LJ.arg (pc := 823) (z := 1) (y := wv G i 1) 0 hC d_law_823 d_law_824 d_law_825 d_law_826 d_law_827 ⟨by decide, by decide⟩ rfl (by omega) hL rfl ?_
  refine LJ.arg (pc := 828) (z := 2) (y := wv G i 2) 0 hC d_law_828 d_law_829 d_law_830 d_law_831 d_law_832 ⟨by decide, by decide⟩ rfl (by omega) hL rfl ?_
  refine LJ.arg (pc := 833) (z := 3) (y := wv G i 3) 0 hC d_law_833 d_law_834 d_law_835 d_law_836 d_law_837 ⟨by decide, by decide⟩ rfl (by omega) hL rfl ?_
  refine LJ.callV (pc := 838) (vs := [vI (wv G i 1), vI (wv G i 2), vI (wv G i 3)]) (st := [(vI (ansLeast (sN S) (sR S) (wv G i 1) (wv G i 2) (wv G i 3)))]) hC d_law_838 rfl okM_X10_least rfl lk_L_90 inst_X10_least sel_X10_least sh_10 rfl ⟨⟨Nat.le_of_ble_eq_true rfl, Nat.le_of_ble_eq_true rfl⟩, ⟨hk, hn⟩, Nat.le_of_ble_eq_true rfl⟩ (Nat.le_of_ble_eq_true rfl) (mo_least hW hS HM fun μ2 HM2 fr2 => ?_)
  refine LJ.nrm (pc' := 841) (ls' := lLS i) (st' := [(vI (ansLeast (sN S) (sR S) (wv G i 1) (wv G i 2) (wv G i 3))), (vI (ansLeast (sN S) (sR S) (wv G i 1) (wv G i 2) (wv G i 3)))]) (k' := k) (n' := n) rfl rfl rfl rfl rfl ?_
  refine LJ.same (pc := 841) 1039 hC d_law_841 (by decide) ?_
  exact K S ν μ2 ⟨hS, HM2, _, _, hW, XS_lift fr2 (wf_f hW) (hS).1.1 HX1⟩
theorem lo_board (hC : lC G) (hL : G.L ≤ 3072) (hi : 0 ≤ i ∧ i ≤ (G.L : Int) - 6) (hk : k ≤ 600000) (hn : n ≤ 7302250) (hw : Wd S ν μ) (K : ∀ S' ν' μ', Wd S' ν' μ' → LJ G 1039 (lLS i) [] SH ν' μ' k n) : LJ G 846 (lLS i) [] SH ν μ k n := by
  obtain ⟨hS, HM, f, s, hW, HX⟩ := hw
  refine LJ.aload_n (pc := 846) (i := 1) 2 hC d_law_846 rfl rfl ?_
  refine LJ.arg (pc := 847) (z := 1) (y := wv G i 1) 0 hC d_law_847 d_law_848 d_law_849 d_law_850 d_law_851 ⟨by decide, by decide⟩ rfl (by omega) hL rfl ?_
  refine LJ.arg (pc := 852) (z := 2) (y := wv G i 2) 0 hC d_law_852 d_law_853 d_law_854 d_law_855 d_law_856 ⟨by decide, by decide⟩ rfl (by omega) hL rfl ?_
  refine LJ.callV (pc := 857) (vs := [vI (wv G i 1), vI (wv G i 2)]) (st := []) hC d_law_857 rfl okM_X9_board rfl lk_L_91 inst_X9_board sel_X9_board sh_9 rfl ⟨⟨Nat.le_of_ble_eq_true rfl, Nat.le_of_ble_eq_true rfl⟩, ⟨hk, hn⟩, Nat.le_of_ble_eq_true rfl⟩ (Nat.le_of_ble_eq_true rfl) (xo_board hW hS HX fun f s ν μ1 hW HX1 fr => ?_)
  have HM := MS_lift fr HM
  refine LJ.nrm (pc' := 860) (ls' := lLS i) (st' := [(vI (oBoard S (wv G i 1) (wv G i 2)).1)]) (k' := k) (n' := n) rfl rfl rfl rfl rfl ?_
  refine LJ.aload_n (pc := 860) (i := 2) 1 hC d_law_860 rfl rfl ?_
  refine LJ.arg (pc := 861) (z := 1) (y := wv G i 1) 0 hC d_law_861 d_law_862 d_law_863 d_law_864 d_law_865 ⟨by decide, by decide⟩ rfl (by omega) hL rfl ?_
  refine LJ.arg (pc := 866) (z := 2) (y := wv G i 2) 0 hC d_law_866 d_law_867 d_law_868 d_law_869 d_law_870 ⟨by decide, by decide⟩ rfl (by omega) hL rfl ?_
  refine LJ.callV (pc := 871) (vs := [vI (wv G i 1), vI (wv G i 2)]) (st := [(vI (oBoard S (wv G i 1) (wv G i 2)).1)]) hC d_law_871 rfl okM_X10_board rfl lk_L_94 inst_X10_board sel_X10_board sh_10 rfl ⟨⟨Nat.le_of_ble_eq_true rfl, Nat.le_of_ble_eq_true rfl⟩, ⟨hk, hn⟩, Nat.le_of_ble_eq_true rfl⟩ (Nat.le_of_ble_eq_true rfl) (mo_board hW HM fun μ2 HM2 fr2 => ?_)
  refine LJ.nrm (pc' := 874) (ls' := lLS i) (st' := [(vI (oBoard S (wv G i 1) (wv G i 2)).1), (vI (oBoard S (wv G i 1) (wv G i 2)).1)]) (k' := k) (n' := n) rfl rfl rfl rfl rfl ?_
  refine LJ.same (pc := 874) 1039 hC d_law_874 (by decide) ?_
  exact K (oBoard S (wv G i 1) (wv G i 2)).2 ν μ2 ⟨(okS_board hS), HM2, _, _, hW, XS_lift fr2 (wf_f hW) (okS_board (S := S) hS).1.1 HX1⟩
theorem lo_put (hC : lC G) (hL : G.L ≤ 3072) (hi : 0 ≤ i ∧ i ≤ (G.L : Int) - 6) (hk : k ≤ 600000) (hn : n ≤ 7302250) (hw : Wd S ν μ) (K : ∀ S' ν' μ', Wd S' ν' μ' → LJ G 1039 (lLS i) [] SH ν' μ' k n) : LJ G 879 (lLS i) [] SH ν μ k n := by
  obtain ⟨hS, HM, f, s, hW, HX⟩ := hw
  refine LJ.aload_n (pc := 879) (i := 1) 2 hC d_law_879 rfl rfl ?_
  refine LJ.arg (pc := 880) (z := 1) (y := wv G i 1) 0 hC d_law_880 d_law_881 d_law_882 d_law_883 d_law_884 ⟨by decide, by decide⟩ rfl (by omega) hL rfl ?_
  refine LJ.arg (pc := 885) (z := 2) (y := wv G i 2) 0 hC d_law_885 d_law_886 d_law_887 d_law_888 d_law_889 ⟨by decide, by decide⟩ rfl (by omega) hL rfl ?_
  refine LJ.callV (pc := 890) (vs := [vI (wv G i 1), vI (wv G i 2)]) (st := []) hC d_law_890 rfl okM_X9_put rfl lk_L_95 inst_X9_put sel_X9_put sh_9 rfl ⟨⟨Nat.le_of_ble_eq_true rfl, Nat.le_of_ble_eq_true rfl⟩, ⟨hk, hn⟩, Nat.le_of_ble_eq_true rfl⟩ (Nat.le_of_ble_eq_true rfl) (xo_put hW hS HX fun f s ν μ1 hW HX1 fr => ?_)
  have HM := MS_lift fr HM
  refine LJ.nrm (pc' := 893) (ls' := lLS i) (st' := [(vI (oPut S (wv G i 1) (wv G i 2)).1)]) (k' := k) (n' := n) rfl rfl rfl rfl rfl ?_
  refine LJ.aload_n (pc := 893) (i := 2) 1 hC d_law_893 rfl rfl ?_
  refine LJ.arg (pc := 894) (z := 1) (y := wv G i 1) 0 hC d_law_894 d_law_895 d_law_896 d_law_897 d_law_898 ⟨by decide, by decide⟩ rfl (by omega) hL rfl ?_
  refine LJ.arg (pc := 899) (z := 2) (y := wv G i 2) 0 hC d_law_899 d_law_900 d_law_901 d_law_902 d_law_903 ⟨by decide, by decide⟩ rfl (by omega) hL rfl ?_
  refine LJ.callV (pc := 904) (vs := [vI (wv G i 1), vI (wv G i 2)]) (st := [(vI (oPut S (wv G i 1) (wv G i 2)).1)]) hC d_law_904 rfl okM_X10_put_ rfl lk_L_98 inst_X10_put_ sel_X10_put_ sh_10 rfl ⟨⟨Nat.le_of_ble_eq_true rfl, Nat.le_of_ble_eq_true rfl⟩, ⟨hk, hn⟩, Nat.le_of_ble_eq_true rfl⟩ (Nat.le_of_ble_eq_true rfl) (mo_put hW HM fun μ2 HM2 fr2 => ?_)
  refine LJ.nrm (pc' := 907) (ls' := lLS i) (st' := [(vI (oPut S (wv G i 1) (wv G i 2)).1), (vI (oPut S (wv G i 1) (wv G i 2)).1)]) (k' := k) (n' := n) rfl rfl rfl rfl rfl ?_
  refine LJ.same (pc := 907) 1039 hC d_law_907 (by decide) ?_
  exact K (oPut S (wv G i 1) (wv G i 2)).2 ν μ2 ⟨(okS_put hS), HM2, _, _, hW, XS_lift fr2 (wf_f hW) (okS_put (S := S) hS).1.1 HX1⟩
theorem lo_parses (hC : lC G) (hL : G.L ≤ 3072) (hi : 0 ≤ i ∧ i ≤ (G.L : Int) - 6) (hk : k ≤ 600000) (hn : n ≤ 7302250) (hw : Wd S ν μ) (K : ∀ S' ν' μ', Wd S' ν' μ' → LJ G 1039 (lLS i) [] SH ν' μ' k n) : LJ G 912 (lLS i) [] SH ν μ k n := by
  obtain ⟨hS, HM, f, s, hW, HX⟩ := hw
  refine LJ.aload_n (pc := 912) (i := 1) 2 hC d_law_912 rfl rfl ?_
  refine LJ.callV (pc := 913) (vs := []) (st := []) hC d_law_913 rfl okM_X9_parses rfl lk_L_99 inst_X9_parses sel_X9_parses sh_9 rfl ⟨⟨Nat.le_of_ble_eq_true rfl, Nat.le_of_ble_eq_true rfl⟩, ⟨hk, hn⟩, Nat.le_of_ble_eq_true rfl⟩ (Nat.le_of_ble_eq_true rfl) (xo_parses hW hS HX fun f s ν μ1 hW HX1 fr => ?_)
  have HM := MS_lift fr HM
  refine LJ.nrm (pc' := 916) (ls' := lLS i) (st' := [(vL (ansParses (sN S) (sR S) (sB S)))]) (k' := k) (n' := n) rfl rfl rfl rfl rfl ?_
  refine LJ.aload_n (pc := 916) (i := 2) 1 hC d_law_916 rfl rfl ?_
  refine LJ.callV (pc := 917) (vs := []) (st := [(vL (ansParses (sN S) (sR S) (sB S)))]) hC d_law_917 rfl okM_X10_parses rfl lk_L_103 inst_X10_parses sel_X10_parses sh_10 rfl ⟨⟨Nat.le_of_ble_eq_true rfl, Nat.le_of_ble_eq_true rfl⟩, ⟨hk, hn⟩, Nat.le_of_ble_eq_true rfl⟩ (Nat.le_of_ble_eq_true rfl) (mo_parses hW hS HM fun μ2 HM2 fr2 => ?_)
  refine LJ.nrm (pc' := 920) (ls' := lLS i) (st' := [(vL (ansParses (sN S) (sR S) (sB S))), (vL (ansParses (sN S) (sR S) (sB S)))]) (k' := k) (n' := n) rfl rfl rfl rfl rfl ?_
  refine LJ.sameL (pc := 920) 1039 hC d_law_920 d_law_921 (by decide) ?_
  exact K S ν μ2 ⟨hS, HM2, _, _, hW, XS_lift fr2 (wf_f hW) (hS).1.1 HX1⟩
theorem lo_best (hC : lC G) (hL : G.L ≤ 3072) (hi : 0 ≤ i ∧ i ≤ (G.L : Int) - 6) (hk : k ≤ 600000) (hn : n ≤ 7302250) (hw : Wd S ν μ) (K : ∀ S' ν' μ', Wd S' ν' μ' → LJ G 1039 (lLS i) [] SH ν' μ' k n) : LJ G 926 (lLS i) [] SH ν μ k n := by
  obtain ⟨hS, HM, f, s, hW, HX⟩ := hw
  refine LJ.aload_n (pc := 926) (i := 1) 2 hC d_law_926 rfl rfl ?_
  refine LJ.callV (pc := 927) (vs := []) (st := []) hC d_law_927 rfl okM_X9_best rfl lk_L_104 inst_X9_best sel_X9_best sh_9 rfl ⟨⟨Nat.le_of_ble_eq_true rfl, Nat.le_of_ble_eq_true rfl⟩, ⟨hk, hn⟩, Nat.le_of_ble_eq_true rfl⟩ (Nat.le_of_ble_eq_true rfl) (xo_best hW hS HX fun f s ν μ1 hW HX1 fr => ?_)
  have HM := MS_lift fr HM
  refine LJ.nrm (pc' := 930) (ls' := lLS i) (st' := [(vI (ansBest (sN S) (sR S) (sB S)))]) (k' := k) (n' := n) rfl rfl rfl rfl rfl ?_
  refine LJ.aload_n (pc := 930) (i := 2) 1 hC d_law_930 rfl rfl ?_
  refine LJ.callV (pc := 931) (vs := []) (st := [(vI (ansBest (sN S) (sR S) (sB S)))]) hC d_law_931 rfl okM_X10_best rfl lk_L_107 inst_X10_best sel_X10_best sh_10 rfl ⟨⟨Nat.le_of_ble_eq_true rfl, Nat.le_of_ble_eq_true rfl⟩, ⟨hk, hn⟩, Nat.le_of_ble_eq_true rfl⟩ (Nat.le_of_ble_eq_true rfl) (mo_best hW hS HM fun μ2 HM2 fr2 => ?_)
  refine LJ.nrm (pc' := 934) (ls' := lLS i) (st' := [(vI (ansBest (sN S) (sR S) (sB S))), (vI (ansBest (sN S) (sR S) (sB S)))]) (k' := k) (n' := n) rfl rfl rfl rfl rfl ?_
  refine LJ.same (pc := 934) 1039 hC d_law_934 (by decide) ?_
  exact K S ν μ2 ⟨hS, HM2, _, _, hW, XS_lift fr2 (wf_f hW) (hS).1.1 HX1⟩
theorem lo_bestStep (hC : lC G) (hL : G.L ≤ 3072) (hi : 0 ≤ i ∧ i ≤ (G.L : Int) - 6) (hk : k ≤ 600000) (hn : n ≤ 7302250) (hw : Wd S ν μ) (K : ∀ S' ν' μ', Wd S' ν' μ' → LJ G 1039 (lLS i) [] SH ν' μ' k n) : LJ G 939 (lLS i) [] SH ν μ k n := by
  obtain ⟨hS, HM, f, s, hW, HX⟩ := hw
  refine LJ.aload_n (pc := 939) (i := 1) 2 hC d_law_939 rfl rfl ?_
  refine LJ.arg (pc := 940) (z := 1) (y := wv G i 1) 0 hC d_law_940 d_law_941 d_law_942 d_law_943 d_law_944 ⟨by decide, by decide⟩ rfl (by omega) hL rfl ?_
  refine LJ.callV (pc := 945) (vs := [vI (wv G i 1)]) (st := []) hC d_law_945 rfl okM_X9_bestStep rfl lk_L_108 inst_X9_bestStep sel_X9_bestStep sh_9 rfl ⟨⟨Nat.le_of_ble_eq_true rfl, Nat.le_of_ble_eq_true rfl⟩, ⟨hk, hn⟩, Nat.le_of_ble_eq_true rfl⟩ (Nat.le_of_ble_eq_true rfl) (xo_bestStep hW hS HX fun f s ν μ1 hW HX1 fr => ?_)
  have HM := MS_lift fr HM
  refine LJ.nrm (pc' := 948) (ls' := lLS i) (st' := [(vI (ansBst (sN S) (sR S) (sB S) (wv G i 1)))]) (k' := k) (n' := n) rfl rfl rfl rfl rfl ?_
  refine LJ.aload_n (pc := 948) (i := 2) 1 hC d_law_948 rfl rfl ?_
  refine LJ.arg (pc := 949) (z := 1) (y := wv G i 1) 0 hC d_law_949 d_law_950 d_law_951 d_law_952 d_law_953 ⟨by decide, by decide⟩ rfl (by omega) hL rfl ?_
  refine LJ.callV (pc := 954) (vs := [vI (wv G i 1)]) (st := [(vI (ansBst (sN S) (sR S) (sB S) (wv G i 1)))]) hC d_law_954 rfl okM_X10_bestStep rfl lk_L_111 inst_X10_bestStep sel_X10_bestStep sh_10 rfl ⟨⟨Nat.le_of_ble_eq_true rfl, Nat.le_of_ble_eq_true rfl⟩, ⟨hk, hn⟩, Nat.le_of_ble_eq_true rfl⟩ (Nat.le_of_ble_eq_true rfl) (mo_bestStep hW hS HM fun μ2 HM2 fr2 => ?_)
  refine LJ.nrm (pc' := 957) (ls' := lLS i) (st' := [(vI (ansBst (sN S) (sR S) (sB S) (wv G i 1))), (vI (ansBst (sN S) (sR S) (sB S) (wv G i 1)))]) (k' := k) (n' := n) rfl rfl rfl rfl rfl ?_
  refine LJ.same (pc := 957) 1039 hC d_law_957 (by decide) ?_
  exact K S ν μ2 ⟨hS, HM2, _, _, hW, XS_lift fr2 (wf_f hW) (hS).1.1 HX1⟩
theorem lo_stands (hC : lC G) (hL : G.L ≤ 3072) (hi : 0 ≤ i ∧ i ≤ (G.L : Int) - 6) (hk : k ≤ 600000) (hn : n ≤ 7302250) (hw : Wd S ν μ) (K : ∀ S' ν' μ', Wd S' ν' μ' → LJ G 1039 (lLS i) [] SH ν' μ' k n) : LJ G 962 (lLS i) [] SH ν μ k n := by
  obtain ⟨hS, HM, f, s, hW, HX⟩ := hw
  refine LJ.aload_n (pc := 962) (i := 1) 2 hC d_law_962 rfl rfl ?_
  refine LJ.arg (pc := 963) (z := 1) (y := wv G i 1) 0 hC d_law_963 d_law_964 d_law_965 d_law_966 d_law_967 ⟨by decide, by decide⟩ rfl (by omega) hL rfl ?_
  refine LJ.arg (pc := 968) (z := 2) (y := wv G i 2) 0 hC d_law_968 d_law_969 d_law_970 d_law_971 d_law_972 ⟨by decide, by decide⟩ rfl (by omega) hL rfl ?_
  refine LJ.arg (pc := 973) (z := 3) (y := wv G i 3) 0 hC d_law_973 d_law_974 d_law_975 d_law_976 d_law_977 ⟨by decide, by decide⟩ rfl (by omega) hL rfl ?_
  refine LJ.arg (pc := 978) (z := 4) (y := wv G i 4) 0 hC d_law_978 d_law_979 d_law_980 d_law_981 d_law_982 ⟨by decide, by decide⟩ rfl (by omega) hL rfl ?_
  refine LJ.callV (pc := 983) (vs := [vI (wv G i 1), vI (wv G i 2), vI (wv G i 3), vI (wv G i 4)]) (st := []) hC d_law_983 rfl okM_X9_stands rfl lk_L_112 inst_X9_stands sel_X9_stands sh_9 rfl ⟨⟨Nat.le_of_ble_eq_true rfl, Nat.le_of_ble_eq_true rfl⟩, ⟨hk, hn⟩, Nat.le_of_ble_eq_true rfl⟩ (Nat.le_of_ble_eq_true rfl) (xo_stands hW hS HX fun f s ν μ1 hW HX1 fr => ?_)
  have HM := MS_lift fr HM
  refine LJ.nrm (pc' := 986) (ls' := lLS i) (st' := [(vL (ansStands (sN S) (sR S) (sB S) (wv G i 1) (wv G i 2) (wv G i 3) (wv G i 4)))]) (k' := k) (n' := n) rfl rfl rfl rfl rfl ?_
  refine LJ.aload_n (pc := 986) (i := 2) 1 hC d_law_986 rfl rfl ?_
  refine LJ.arg (pc := 987) (z := 1) (y := wv G i 1) 0 hC d_law_987 d_law_988 d_law_989 d_law_990 d_law_991 ⟨by decide, by decide⟩ rfl (by omega) hL rfl ?_
  refine LJ.arg (pc := 992) (z := 2) (y := wv G i 2) 0 hC d_law_992 d_law_993 d_law_994 d_law_995 d_law_996 ⟨by decide, by decide⟩ rfl (by omega) hL rfl ?_
  refine LJ.arg (pc := 997) (z := 3) (y := wv G i 3) 0 hC d_law_997 d_law_998 d_law_999 d_law_1000 d_law_1001 ⟨by decide, by decide⟩ rfl (by omega) hL rfl ?_
  refine LJ.arg (pc := 1002) (z := 4) (y := wv G i 4) 0 hC d_law_1002 d_law_1003 d_law_1004 d_law_1005 d_law_1006 ⟨by decide, by decide⟩ rfl (by omega) hL rfl ?_
  refine LJ.callV (pc := 1007) (vs := [vI (wv G i 1), vI (wv G i 2), vI (wv G i 3), vI (wv G i 4)]) (st := [(vL (ansStands (sN S) (sR S) (sB S) (wv G i 1) (wv G i 2) (wv G i 3) (wv G i 4)))]) hC d_law_1007 rfl okM_X10_stands rfl lk_L_116 inst_X10_stands sel_X10_stands sh_10 rfl ⟨⟨Nat.le_of_ble_eq_true rfl, Nat.le_of_ble_eq_true rfl⟩, ⟨hk, hn⟩, Nat.le_of_ble_eq_true rfl⟩ (Nat.le_of_ble_eq_true rfl) (mo_stands hW hS HM fun μ2 HM2 fr2 => ?_)
  refine LJ.nrm (pc' := 1010) (ls' := lLS i) (st' := [(vL (ansStands (sN S) (sR S) (sB S) (wv G i 1) (wv G i 2) (wv G i 3) (wv G i 4))), (vL (ansStands (sN S) (sR S) (sB S) (wv G i 1) (wv G i 2) (wv G i 3) (wv G i 4)))]) (k' := k) (n' := n) rfl rfl rfl rfl rfl ?_
  refine LJ.sameL (pc := 1010) 1039 hC d_law_1010 d_law_1011 (by decide) ?_
  exact K S ν μ2 ⟨hS, HM2, _, _, hW, XS_lift fr2 (wf_f hW) (hS).1.1 HX1⟩
theorem lo_count (hC : lC G) (hL : G.L ≤ 3072) (hi : 0 ≤ i ∧ i ≤ (G.L : Int) - 6) (hk : k ≤ 600000) (hn : n ≤ 7302250) (hw : Wd S ν μ) (K : ∀ S' ν' μ', Wd S' ν' μ' → LJ G 1039 (lLS i) [] SH ν' μ' k n) : LJ G 1016 (lLS i) [] SH ν μ k n := by
  obtain ⟨hS, HM, f, s, hW, HX⟩ := hw
  refine LJ.aload_n (pc := 1016) (i := 1) 2 hC d_law_1016 rfl rfl ?_
  refine LJ.arg (pc := 1017) (z := 1) (y := wv G i 1) 0 hC d_law_1017 d_law_1018 d_law_1019 d_law_1020 d_law_1021 ⟨by decide, by decide⟩ rfl (by omega) hL rfl ?_
  refine LJ.callV (pc := 1022) (vs := [vI (wv G i 1)]) (st := []) hC d_law_1022 rfl okM_X9_count rfl lk_L_117 inst_X9_count sel_X9_count sh_9 rfl ⟨⟨Nat.le_of_ble_eq_true rfl, Nat.le_of_ble_eq_true rfl⟩, ⟨hk, hn⟩, Nat.le_of_ble_eq_true rfl⟩ (Nat.le_of_ble_eq_true rfl) (xo_count hW HX fun f s ν μ1 hW HX1 fr => ?_)
  have HM := MS_lift fr HM
  refine LJ.nrm (pc' := 1025) (ls' := lLS i) (st' := [(vI (ansCount (sN S) (sC S) (sB S) (sF S) (wv G i 1)))]) (k' := k) (n' := n) rfl rfl rfl rfl rfl ?_
  refine LJ.aload_n (pc := 1025) (i := 2) 1 hC d_law_1025 rfl rfl ?_
  refine LJ.arg (pc := 1026) (z := 1) (y := wv G i 1) 0 hC d_law_1026 d_law_1027 d_law_1028 d_law_1029 d_law_1030 ⟨by decide, by decide⟩ rfl (by omega) hL rfl ?_
  refine LJ.callV (pc := 1031) (vs := [vI (wv G i 1)]) (st := [(vI (ansCount (sN S) (sC S) (sB S) (sF S) (wv G i 1)))]) hC d_law_1031 rfl okM_X10_count_ rfl lk_L_120 inst_X10_count_ sel_X10_count_ sh_10 rfl ⟨⟨Nat.le_of_ble_eq_true rfl, Nat.le_of_ble_eq_true rfl⟩, ⟨hk, hn⟩, Nat.le_of_ble_eq_true rfl⟩ (Nat.le_of_ble_eq_true rfl) (mo_count hW HM fun μ2 HM2 fr2 => ?_)
  refine LJ.nrm (pc' := 1034) (ls' := lLS i) (st' := [(vI (ansCount (sN S) (sC S) (sB S) (sF S) (wv G i 1))), (vI (ansCount (sN S) (sC S) (sB S) (sF S) (wv G i 1)))]) (k' := k) (n' := n) rfl rfl rfl rfl rfl ?_
  refine LJ.same (pc := 1034) 1039 hC d_law_1034 (by decide) ?_
  exact K S ν μ2 ⟨hS, HM2, _, _, hW, XS_lift fr2 (wf_f hW) (hS).1.1 HX1⟩
end LO
