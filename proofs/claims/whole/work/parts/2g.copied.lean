/-! Text.copied, EelClerk.law, the law (printed by gen_law.py) -/
def y_Tx_copied : MethodName := ⟨zNm 10, "copied", "()LEelClerk$Text;"⟩
abbrev b_Tx_copied : ByteArray := prog_11_method_2_code
theorem d_Tx_copied_0 : decode b_Tx_copied 0 = .ok (.aload_n 0, 1) := by decide +kernel
theorem d_Tx_copied_1 : decode b_Tx_copied 1 = .ok (.getfield 9, 3) := by decide +kernel
theorem d_Tx_copied_4 : decode b_Tx_copied 4 = .ok (.aload_n 0, 1) := by decide +kernel
theorem d_Tx_copied_5 : decode b_Tx_copied 5 = .ok (.getfield 32, 3) := by decide +kernel
theorem d_Tx_copied_8 : decode b_Tx_copied 8 = .ok (.arraylength, 1) := by decide +kernel
theorem d_Tx_copied_9 : decode b_Tx_copied 9 = .ok (.if_icmp .ge 10, 3) := by decide +kernel
theorem d_Tx_copied_12 : decode b_Tx_copied 12 = .ok (.aload_n 0, 1) := by decide +kernel
theorem d_Tx_copied_13 : decode b_Tx_copied 13 = .ok (.getfield 9, 3) := by decide +kernel
theorem d_Tx_copied_16 : decode b_Tx_copied 16 = .ok (.goto 8, 3) := by decide +kernel
theorem d_Tx_copied_19 : decode b_Tx_copied 19 = .ok (.aload_n 0, 1) := by decide +kernel
theorem d_Tx_copied_20 : decode b_Tx_copied 20 = .ok (.getfield 32, 3) := by decide +kernel
theorem d_Tx_copied_23 : decode b_Tx_copied 23 = .ok (.arraylength, 1) := by decide +kernel
theorem d_Tx_copied_24 : decode b_Tx_copied 24 = .ok (.istore_n 1, 1) := by decide +kernel
theorem d_Tx_copied_25 : decode b_Tx_copied 25 = .ok (.new 10, 3) := by decide +kernel
theorem d_Tx_copied_28 : decode b_Tx_copied 28 = .ok (.dup, 1) := by decide +kernel
theorem d_Tx_copied_29 : decode b_Tx_copied 29 = .ok (.iload_n 1, 1) := by decide +kernel
theorem d_Tx_copied_30 : decode b_Tx_copied 30 = .ok (.invokespecial 35, 3) := by decide +kernel
theorem d_Tx_copied_33 : decode b_Tx_copied 33 = .ok (.astore_n 2, 1) := by decide +kernel
theorem d_Tx_copied_34 : decode b_Tx_copied 34 = .ok (.iconst 0, 1) := by decide +kernel
theorem d_Tx_copied_35 : decode b_Tx_copied 35 = .ok (.istore_n 3, 1) := by decide +kernel
theorem d_Tx_copied_36 : decode b_Tx_copied 36 = .ok (.iload_n 3, 1) := by decide +kernel
theorem d_Tx_copied_37 : decode b_Tx_copied 37 = .ok (.aload_n 2, 1) := by decide +kernel
theorem d_Tx_copied_38 : decode b_Tx_copied 38 = .ok (.getfield 32, 3) := by decide +kernel
theorem d_Tx_copied_41 : decode b_Tx_copied 41 = .ok (.arraylength, 1) := by decide +kernel
theorem d_Tx_copied_42 : decode b_Tx_copied 42 = .ok (.if_icmp .ge 26, 3) := by decide +kernel
theorem d_Tx_copied_45 : decode b_Tx_copied 45 = .ok (.iload_n 3, 1) := by decide +kernel
theorem d_Tx_copied_46 : decode b_Tx_copied 46 = .ok (.iload_n 1, 1) := by decide +kernel
theorem d_Tx_copied_47 : decode b_Tx_copied 47 = .ok (.if_icmp .ge 21, 3) := by decide +kernel
theorem d_Tx_copied_50 : decode b_Tx_copied 50 = .ok (.aload_n 2, 1) := by decide +kernel
theorem d_Tx_copied_51 : decode b_Tx_copied 51 = .ok (.getfield 32, 3) := by decide +kernel
theorem d_Tx_copied_54 : decode b_Tx_copied 54 = .ok (.iload_n 3, 1) := by decide +kernel
theorem d_Tx_copied_55 : decode b_Tx_copied 55 = .ok (.aload_n 0, 1) := by decide +kernel
theorem d_Tx_copied_56 : decode b_Tx_copied 56 = .ok (.getfield 32, 3) := by decide +kernel
theorem d_Tx_copied_59 : decode b_Tx_copied 59 = .ok (.iload_n 3, 1) := by decide +kernel
theorem d_Tx_copied_60 : decode b_Tx_copied 60 = .ok (.iaload, 1) := by decide +kernel
theorem d_Tx_copied_61 : decode b_Tx_copied 61 = .ok (.iastore, 1) := by decide +kernel
theorem d_Tx_copied_62 : decode b_Tx_copied 62 = .ok (.iinc 3 1, 3) := by decide +kernel
theorem d_Tx_copied_65 : decode b_Tx_copied 65 = .ok (.goto (-29), 3) := by decide +kernel
theorem d_Tx_copied_68 : decode b_Tx_copied 68 = .ok (.aload_n 2, 1) := by decide +kernel
theorem d_Tx_copied_69 : decode b_Tx_copied 69 = .ok (.iload_n 1, 1) := by decide +kernel
theorem d_Tx_copied_70 : decode b_Tx_copied 70 = .ok (.putfield 9, 3) := by decide +kernel
theorem d_Tx_copied_73 : decode b_Tx_copied 73 = .ok (.aload_n 2, 1) := by decide +kernel
theorem d_Tx_copied_74 : decode b_Tx_copied 74 = .ok (.aload_n 0, 1) := by decide +kernel
theorem d_Tx_copied_75 : decode b_Tx_copied 75 = .ok (.getfield 15, 3) := by decide +kernel
theorem d_Tx_copied_78 : decode b_Tx_copied 78 = .ok (.putfield 15, 3) := by decide +kernel
theorem d_Tx_copied_81 : decode b_Tx_copied 81 = .ok (.aload_n 2, 1) := by decide +kernel
theorem d_Tx_copied_82 : decode b_Tx_copied 82 = .ok (.aload_n 0, 1) := by decide +kernel
theorem d_Tx_copied_83 : decode b_Tx_copied 83 = .ok (.getfield 18, 3) := by decide +kernel
theorem d_Tx_copied_86 : decode b_Tx_copied 86 = .ok (.putfield 18, 3) := by decide +kernel
theorem d_Tx_copied_89 : decode b_Tx_copied 89 = .ok (.aload_n 0, 1) := by decide +kernel
theorem d_Tx_copied_90 : decode b_Tx_copied 90 = .ok (.getfield 22, 3) := by decide +kernel
theorem d_Tx_copied_93 : decode b_Tx_copied 93 = .ok (.iconst 0, 1) := by decide +kernel
theorem d_Tx_copied_94 : decode b_Tx_copied 94 = .ok (.aload_n 2, 1) := by decide +kernel
theorem d_Tx_copied_95 : decode b_Tx_copied 95 = .ok (.getfield 22, 3) := by decide +kernel
theorem d_Tx_copied_98 : decode b_Tx_copied 98 = .ok (.iconst 0, 1) := by decide +kernel
theorem d_Tx_copied_99 : decode b_Tx_copied 99 = .ok (.bipush 12, 2) := by decide +kernel
theorem d_Tx_copied_101 : decode b_Tx_copied 101 = .ok (.invokestatic 38, 3) := by decide +kernel
theorem d_Tx_copied_104 : decode b_Tx_copied 104 = .ok (.aload_n 0, 1) := by decide +kernel
theorem d_Tx_copied_105 : decode b_Tx_copied 105 = .ok (.getfield 26, 3) := by decide +kernel
theorem d_Tx_copied_108 : decode b_Tx_copied 108 = .ok (.iconst 0, 1) := by decide +kernel
theorem d_Tx_copied_109 : decode b_Tx_copied 109 = .ok (.aload_n 2, 1) := by decide +kernel
theorem d_Tx_copied_110 : decode b_Tx_copied 110 = .ok (.getfield 26, 3) := by decide +kernel
theorem d_Tx_copied_113 : decode b_Tx_copied 113 = .ok (.iconst 0, 1) := by decide +kernel
theorem d_Tx_copied_114 : decode b_Tx_copied 114 = .ok (.bipush 12, 2) := by decide +kernel
theorem d_Tx_copied_116 : decode b_Tx_copied 116 = .ok (.invokestatic 38, 3) := by decide +kernel
theorem d_Tx_copied_119 : decode b_Tx_copied 119 = .ok (.aload_n 0, 1) := by decide +kernel
theorem d_Tx_copied_120 : decode b_Tx_copied 120 = .ok (.getfield 29, 3) := by decide +kernel
theorem d_Tx_copied_123 : decode b_Tx_copied 123 = .ok (.iconst 0, 1) := by decide +kernel
theorem d_Tx_copied_124 : decode b_Tx_copied 124 = .ok (.aload_n 2, 1) := by decide +kernel
theorem d_Tx_copied_125 : decode b_Tx_copied 125 = .ok (.getfield 29, 3) := by decide +kernel
theorem d_Tx_copied_128 : decode b_Tx_copied 128 = .ok (.iconst 0, 1) := by decide +kernel
theorem d_Tx_copied_129 : decode b_Tx_copied 129 = .ok (.bipush 36, 2) := by decide +kernel
theorem d_Tx_copied_131 : decode b_Tx_copied 131 = .ok (.invokestatic 38, 3) := by decide +kernel
theorem d_Tx_copied_134 : decode b_Tx_copied 134 = .ok (.aload_n 2, 1) := by decide +kernel
theorem d_Tx_copied_135 : decode b_Tx_copied 135 = .ok (.areturn, 1) := by decide +kernel
theorem mf_Tx_copied : zMF y_Tx_copied b_Tx_copied 4 (some (.object "EelClerk$Text")) 0 := ⟨zGW_in 863 (by decide +kernel) (by decide +kernel), zGW_in 129 (by decide +kernel) (by decide +kernel), by decide +kernel⟩
theorem in_Tx_copied : Cond.instanceMethod y_Tx_copied ∈ zGW := zGW_in 861 (by decide +kernel) (by decide +kernel)
theorem se_Tx_copied : Cond.selects y_Tx_copied.cls y_Tx_copied y_Tx_copied ∈ zGW := zGW_in 862 (by decide +kernel) (by decide +kernel)
theorem lk_10_35 : Cond.methodLink (zNm 10) 35 y_Tx_init ∈ zGW := zGW_in 865 (by decide +kernel) (by decide +kernel)
theorem lk_10_38 : Cond.methodLink (zNm 10) 38 arraycopyName ∈ zGW := zGW_in 866 (by decide +kernel) (by decide +kernel)
abbrev rm_Tx_copied : Room := { frames := 2, cells := 5, slots := 503, locals := 96 }
def f_Tx_copied_68 (fu : Nat) (a0 : Nat) (a2 : Nat) (a1 : Int32) (S : zSt) : Option (Option Nat × zSt) := zgd ((zI (zwI (zwI S a2 1 a1) a2 2 (zI (zwI S a2 1 a1) a0 2)) a0 3) = 0 ∨ (zI (zwI (zwI S a2 1 a1) a2 2 (zI (zwI S a2 1 a1) a0 2)) a0 3) = 1) (some ((some a2), zcpI (zcpI (zcpI (zwI (zwI (zwI S a2 1 a1) a2 2 (zI (zwI S a2 1 a1) a0 2)) a2 3 (zI (zwI (zwI S a2 1 a1) a2 2 (zI (zwI S a2 1 a1) a0 2)) a0 3)) (a0 + 1) (a2 + 1) 12) (a0 + 2) (a2 + 2) 12) (a0 + 3) (a2 + 3) 36))
def f_Tx_copied_36 (fu : Nat) (a0 : Nat) (a2 : Nat) : Nat → Int32 → Int32 → zSt → Option (Option Nat × zSt)
  | 0, _, _, _ => none
  | n + 1, a1, a3, S => if ((zA S (a2 + 4)).toInt32) ≤ a3 then f_Tx_copied_68 fu a0 a2 a1 S else if a1 ≤ a3 then f_Tx_copied_68 fu a0 a2 a1 S else zgd (0 ≤ a3 ∧ a3.toNatClampNeg < zA S (a0 + 4)) (zgd (0 ≤ a3 ∧ a3.toNatClampNeg < zA S (a2 + 4)) (f_Tx_copied_36 fu a0 a2 n a1 (a3 + (1 : Int32)) (zwI S (a2 + 4) a3.toNatClampNeg (zI S (a0 + 4) a3.toNatClampNeg))))
def f_Tx_copied_34 (fu : Nat) (a0 : Nat) (a2 : Nat) (a1 : Int32) (S : zSt) : Option (Option Nat × zSt) := f_Tx_copied_36 fu a0 a2 fu a1 (0 : Int32) S
set_option maxRecDepth 100000 in
set_option maxHeartbeats 4000000 in
theorem c_Tx_copied_68 {p : Program} {l : Launch} {e : Env} {s : State} {m : MethodId} {args : Array Value} {below : List Frame} {meth : Method} {c : Code} {G : zG} (C : zC p s m args meth c G b_Tx_copied 4 y_Tx_copied.cls) (hret : meth.sig.returnType = (some (.object "EelClerk$Text"))) {fu : Nat} {a0 : Nat} {a2 : Nat} {r : Option Nat} {S1 : zSt} (ha0 : zK a0 = 10) (ha2 : zK a2 = 10) : ∀ (a1 : Int32) (S : zSt) (ga0 : a0 < zN S) (ga2 : a2 < zN S) , f_Tx_copied_68 fu a0 a2 a1 S = some (r, S1) → zJ p l e rm_Tx_copied s m args below meth c G true 4 5 503 (zQm below G args s rm_Tx_copied true (some (zr r)) S1) S 68 [(0, zr (some a0)), (1, zi a1), (2, zr (some a2))] [] := by
  intro a1 S ga0 ga2 h
  unfold f_Tx_copied_68 at h
  refine z_aload_n C 2 rfl d_Tx_copied_68 rfl ?_
  refine z_iload_n C 1 rfl d_Tx_copied_69 rfl ?_
  refine z_putI C 10 (by decide) 1 (by decide) rfl (Or.inl rfl) (Or.inr ga2) ha2 zfl_10_9 (Or.inl rfl) d_Tx_copied_70 ?_
  refine z_aload_n C 2 rfl d_Tx_copied_73 rfl ?_
  refine z_aload_n C 0 rfl d_Tx_copied_74 rfl ?_
  refine z_getI C 10 (by decide) 2 (by decide) rfl (Or.inr ga0) ha0 zfl_10_15 d_Tx_copied_75 ?_
  refine z_putI C 10 (by decide) 2 (by decide) rfl (Or.inl rfl) (Or.inr ga2) ha2 zfl_10_15 (Or.inl rfl) d_Tx_copied_78 ?_
  refine z_aload_n C 2 rfl d_Tx_copied_81 rfl ?_
  refine z_aload_n C 0 rfl d_Tx_copied_82 rfl ?_
  refine z_getI C 10 (by decide) 3 (by decide) rfl (Or.inr ga0) ha0 zfl_10_18 d_Tx_copied_83 ?_
  obtain ⟨g1, h⟩ := zgd_some h
  refine z_putI C 10 (by decide) 3 (by decide) rfl (Or.inr g1) (Or.inr ga2) ha2 zfl_10_18 (Or.inl rfl) d_Tx_copied_86 ?_
  refine z_aload_n C 0 rfl d_Tx_copied_89 rfl ?_
  refine z_getF2 C 10 (by decide) 4 (by decide) rfl 1 12 rfl (a0 + 1) rfl (Or.inr ga0) ha0 zfl_10_22 d_Tx_copied_90 ?_
  refine z_iconst C (0 : Int32) (by decide) d_Tx_copied_93 ?_
  refine z_aload_n C 2 rfl d_Tx_copied_94 rfl ?_
  refine z_getF2 C 10 (by decide) 4 (by decide) rfl 1 12 rfl (a2 + 1) rfl (Or.inr ga2) ha2 zfl_10_22 d_Tx_copied_95 ?_
  refine z_iconst C (0 : Int32) (by decide) d_Tx_copied_98 ?_
  refine z_bipush C (12 : Int32) (by decide) d_Tx_copied_99 ?_
  refine z_fact (fun hSR => ?_)
  refine z_copyI C 12 (Or.inr (ztx_1 hSR ha0 ga0).1) (ztk_1 ha0) (ztx_1 hSR ha0 ga0).2 (Or.inr (ztx_1 hSR ha2 ga2).1) (ztk_1 ha2) (ztx_1 hSR ha2 ga2).2 (by decide) ⟨by decide, by decide⟩ (Nat.le_of_ble_eq_true rfl) lk_10_38 d_Tx_copied_101 ?_
  refine z_aload_n C 0 rfl d_Tx_copied_104 rfl ?_
  refine z_getF2 C 10 (by decide) 5 (by decide) rfl 2 12 rfl (a0 + 2) rfl (Or.inr ga0) ha0 zfl_10_26 d_Tx_copied_105 ?_
  refine z_iconst C (0 : Int32) (by decide) d_Tx_copied_108 ?_
  refine z_aload_n C 2 rfl d_Tx_copied_109 rfl ?_
  refine z_getF2 C 10 (by decide) 5 (by decide) rfl 2 12 rfl (a2 + 2) rfl (Or.inr ga2) ha2 zfl_10_26 d_Tx_copied_110 ?_
  refine z_iconst C (0 : Int32) (by decide) d_Tx_copied_113 ?_
  refine z_bipush C (12 : Int32) (by decide) d_Tx_copied_114 ?_
  refine z_fact (fun hSR => ?_)
  refine z_copyI C 12 (Or.inr (ztx_2 hSR ha0 ga0).1) (ztk_2 ha0) (ztx_2 hSR ha0 ga0).2 (Or.inr (ztx_2 hSR ha2 ga2).1) (ztk_2 ha2) (ztx_2 hSR ha2 ga2).2 (by decide) ⟨by decide, by decide⟩ (Nat.le_of_ble_eq_true rfl) lk_10_38 d_Tx_copied_116 ?_
  refine z_aload_n C 0 rfl d_Tx_copied_119 rfl ?_
  refine z_getF2 C 10 (by decide) 6 (by decide) rfl 3 36 rfl (a0 + 3) rfl (Or.inr ga0) ha0 zfl_10_29 d_Tx_copied_120 ?_
  refine z_iconst C (0 : Int32) (by decide) d_Tx_copied_123 ?_
  refine z_aload_n C 2 rfl d_Tx_copied_124 rfl ?_
  refine z_getF2 C 10 (by decide) 6 (by decide) rfl 3 36 rfl (a2 + 3) rfl (Or.inr ga2) ha2 zfl_10_29 d_Tx_copied_125 ?_
  refine z_iconst C (0 : Int32) (by decide) d_Tx_copied_128 ?_
  refine z_bipush C (36 : Int32) (by decide) d_Tx_copied_129 ?_
  refine z_fact (fun hSR => ?_)
  refine z_copyI C 36 (Or.inr (ztx_3 hSR ha0 ga0).1) (ztk_3 ha0) (ztx_3 hSR ha0 ga0).2 (Or.inr (ztx_3 hSR ha2 ga2).1) (ztk_3 ha2) (ztx_3 hSR ha2 ga2).2 (by decide) ⟨by decide, by decide⟩ (Nat.le_of_ble_eq_true rfl) lk_10_38 d_Tx_copied_131 ?_
  refine z_aload_n C 2 rfl d_Tx_copied_134 rfl ?_
  cases h
  exact z_aret C _ hret ⟨by decide, by decide⟩ d_Tx_copied_135
set_option maxRecDepth 100000 in
set_option maxHeartbeats 4000000 in
theorem c_Tx_copied_36 {p : Program} {l : Launch} {e : Env} {s : State} {m : MethodId} {args : Array Value} {below : List Frame} {meth : Method} {c : Code} {G : zG} (C : zC p s m args meth c G b_Tx_copied 4 y_Tx_copied.cls) (hret : meth.sig.returnType = (some (.object "EelClerk$Text"))) {fu : Nat} {a0 : Nat} {a2 : Nat} {r : Option Nat} {S1 : zSt} (ha0 : zK a0 = 10) (ha2 : zK a2 = 10) : ∀ (n : Nat) (a1 : Int32) (a3 : Int32) (S : zSt) (ga0 : a0 < zN S) (ga2 : a2 < zN S) , f_Tx_copied_36 fu a0 a2 n a1 a3 S = some (r, S1) → zJ p l e rm_Tx_copied s m args below meth c G true 4 5 503 (zQm below G args s rm_Tx_copied true (some (zr r)) S1) S 36 [(0, zr (some a0)), (1, zi a1), (2, zr (some a2)), (3, zi a3)] [] := by
  intro n
  induction n with
  | zero =>
    intro a1 a3 S ga0 ga2 h
    cases h
  | succ n ih =>
    intro a1 a3 S ga0 ga2 h
    rw [f_Tx_copied_36] at h
    refine z_iload_n C 3 rfl d_Tx_copied_36 rfl ?_
    refine z_aload_n C 2 rfl d_Tx_copied_37 rfl ?_
    refine z_getF2 C 10 (by decide) 0 (by decide) rfl 4 0 rfl (a2 + 4) rfl (Or.inr ga2) ha2 zfl_10_32 d_Tx_copied_38 ?_
    refine z_fact (fun hSR => ?_)
    refine z_alen50 C (Or.inr (ztx_4 hSR ha2 ga2).1) (ztk_4 ha2) d_Tx_copied_41 ?_
    rcases zite h with ⟨c1, h⟩ | ⟨c1, h⟩
    · refine z_icmp_get C 68 c1 d_Tx_copied_42 (by decide) ?_
      refine zq_lsub [0, 1, 2] [(0, zr (some a0)), (1, zi a1), (2, zr (some a2))] rfl ?_
      exact c_Tx_copied_68 C hret ha0 ha2  a1 S ga0 ga2 h
    · refine z_icmp_gef C 68 c1 d_Tx_copied_42 (by decide) ?_
      refine z_iload_n C 3 rfl d_Tx_copied_45 rfl ?_
      refine z_iload_n C 1 rfl d_Tx_copied_46 rfl ?_
      rcases zite h with ⟨c2, h⟩ | ⟨c2, h⟩
      · refine z_icmp_get C 68 c2 d_Tx_copied_47 (by decide) ?_
        refine zq_lsub [0, 1, 2] [(0, zr (some a0)), (1, zi a1), (2, zr (some a2))] rfl ?_
        exact c_Tx_copied_68 C hret ha0 ha2  a1 S ga0 ga2 h
      · refine z_icmp_gef C 68 c2 d_Tx_copied_47 (by decide) ?_
        refine z_aload_n C 2 rfl d_Tx_copied_50 rfl ?_
        refine z_getF2 C 10 (by decide) 0 (by decide) rfl 4 0 rfl (a2 + 4) rfl (Or.inr ga2) ha2 zfl_10_32 d_Tx_copied_51 ?_
        refine z_iload_n C 3 rfl d_Tx_copied_54 rfl ?_
        refine z_aload_n C 0 rfl d_Tx_copied_55 rfl ?_
        refine z_getF2 C 10 (by decide) 0 (by decide) rfl 4 0 rfl (a0 + 4) rfl (Or.inr ga0) ha0 zfl_10_32 d_Tx_copied_56 ?_
        refine z_iload_n C 3 rfl d_Tx_copied_59 rfl ?_
        refine z_fact (fun hSR => ?_)
        obtain ⟨g3, h⟩ := zgd_some h
        refine z_ialoadS C (Or.inr (ztx_4 hSR ha0 ga0).1) (ztk_4 ha0) rfl g3 d_Tx_copied_60 ?_
        refine z_fact (fun hSR => ?_)
        obtain ⟨g4, h⟩ := zgd_some h
        refine z_iastoreS C (Or.inr (ztx_4 hSR ha2 ga2).1) (ztk_4 ha2) rfl g4 d_Tx_copied_61 ?_
        refine z_iinc C 3 (a3 + (1 : Int32)) [(3, zi (a3 + (1 : Int32))), (0, zr (some a0)), (1, zi a1), (2, zr (some a2))] rfl d_Tx_copied_62 (by first | rfl | decide) (by decide) rfl ?_
        refine z_goto C 36 d_Tx_copied_65 (by decide) ?_
        refine zq_lsub [1, 2, 3, 0] [(0, zr (some a0)), (1, zi a1), (2, zr (some a2)), (3, zi (a3 + (1 : Int32)))] rfl ?_
        exact ih a1 (a3 + (1 : Int32)) (zwI S (a2 + 4) a3.toNatClampNeg (zI S (a0 + 4) a3.toNatClampNeg)) ga0 ga2 h
set_option maxRecDepth 100000 in
set_option maxHeartbeats 4000000 in
theorem c_Tx_copied_34 {p : Program} {l : Launch} {e : Env} {s : State} {m : MethodId} {args : Array Value} {below : List Frame} {meth : Method} {c : Code} {G : zG} (C : zC p s m args meth c G b_Tx_copied 4 y_Tx_copied.cls) (hret : meth.sig.returnType = (some (.object "EelClerk$Text"))) {fu : Nat} {a0 : Nat} {a2 : Nat} {r : Option Nat} {S1 : zSt} (ha0 : zK a0 = 10) (ha2 : zK a2 = 10) : ∀ (a1 : Int32) (S : zSt) (ga0 : a0 < zN S) (ga2 : a2 < zN S) , f_Tx_copied_34 fu a0 a2 a1 S = some (r, S1) → zJ p l e rm_Tx_copied s m args below meth c G true 4 5 503 (zQm below G args s rm_Tx_copied true (some (zr r)) S1) S 34 [(0, zr (some a0)), (1, zi a1), (2, zr (some a2))] [] := by
  intro a1 S ga0 ga2 h
  unfold f_Tx_copied_34 at h
  refine z_iconst C (0 : Int32) (by decide) d_Tx_copied_34 ?_
  refine z_istore_n C [(3, zi (0 : Int32)), (0, zr (some a0)), (1, zi a1), (2, zr (some a2))] d_Tx_copied_35 rfl (by decide) rfl ?_
  refine zq_lsub [1, 2, 3, 0] [(0, zr (some a0)), (1, zi a1), (2, zr (some a2)), (3, zi (0 : Int32))] rfl ?_
  exact c_Tx_copied_36 C hret ha0 ha2 fu  a1 (0 : Int32) S ga0 ga2 h
theorem zSR_Tx {S S3 : zSt} {x : Int32} (hS : zSR S) (hK : zK (zN S) = 10 ∧ zN S < zX) (h : f_Tx_init (zN S) x (znew S 0) = some S3) : zSR S3 ∧ zN S3 = zN S + 5 := by
  obtain ⟨h1, h2, h3⟩ := hS
  unfold f_Tx_init at h
  obtain ⟨-, h⟩ := zgd_some h
  obtain ⟨-, h⟩ := zgd_some h
  obtain ⟨-, h⟩ := zgd_some h
  obtain ⟨k1, h⟩ := zgd_some h
  obtain ⟨-, h⟩ := zgd_some h
  obtain ⟨k2, h⟩ := zgd_some h
  obtain ⟨-, h⟩ := zgd_some h
  obtain ⟨k3, h⟩ := zgd_some h
  obtain ⟨-, h⟩ := zgd_some h
  have main : ∀ len : Nat, zK (zN (znew S 0) + 3) = 50 ∧ zN (znew S 0) + 3 < zX → some (zwR (znew (zwR (znew (zwR (znew (zwR (znew (zwI (zwI (zwI (znew S 0) (zN S) 1 (0 : Int32)) (zN S) 2 (0 : Int32)) (zN S) 3 (0 : Int32)) 12) (zN S) 4 (some (zN (znew S 0)))) 12) (zN S) 5 (some (zN (znew S 0) + 1))) 36) (zN S) 6 (some (zN (znew S 0) + 2))) len) (zN S) 0 (some (zN (znew S 0) + 3))) = some S3 → zSR S3 ∧ zN S3 = zN S + 5 := by
    intro len k4 e
    cases e
    refine ⟨⟨by show zN0 ≤ zN S + 5; omega, by have := k4.2; rw [znew_N] at this; show zN S + 5 ≤ zX; omega, fun i hi hk k o n ho => ?_⟩, rfl⟩
    have hi : i < zN S + 5 := hi
    rw [znew_N] at k1 k2 k3 k4
    have hi2 : i ≤ zN S := by
      apply Nat.le_of_not_lt
      intro hlt
      have hc : i = zN S + 1 ∨ i = zN S + 1 + 1 ∨ i = zN S + 1 + 2 ∨ i = zN S + 1 + 3 := by omega
      rcases hc with e | e | e | e <;> rw [e] at hk <;> omega
    by_cases he : i = zN S
    · subst he
      rw [hK.1] at ho
      have hk4 : k = 0 ∨ k = 4 ∨ k = 5 ∨ k = 6 := by
        by_cases q0 : k = 0
        · exact Or.inl q0
        by_cases q4 : k = 4
        · exact Or.inr (Or.inl q4)
        by_cases q5 : k = 5
        · exact Or.inr (Or.inr (Or.inl q5))
        by_cases q6 : k = 6
        · exact Or.inr (Or.inr (Or.inr q6))
        exfalso
        unfold zoff at ho
        split at ho <;> first | (cases ho; done) | omega
      rcases hk4 with rfl | rfl | rfl | rfl
      · cases ho
        exact ⟨by simp [zR, zwR, zup, znew, zwI, zN] <;> omega, by show zN S + 4 < zN S + 5; omega, fun h => absurd rfl h⟩
      · cases ho
        exact ⟨by simp [zR, zwR, zup, znew, zwI, zN] <;> omega, by show zN S + 1 < zN S + 5; omega, fun _ => by simp [zA, zwR, zup, znew, zwI, zN] <;> omega⟩
      · cases ho
        exact ⟨by simp [zR, zwR, zup, znew, zwI, zN] <;> omega, by show zN S + 2 < zN S + 5; omega, fun _ => by simp [zA, zwR, zup, znew, zwI, zN] <;> omega⟩
      · cases ho
        exact ⟨by simp [zR, zwR, zup, znew, zwI, zN] <;> omega, by show zN S + 3 < zN S + 5; omega, fun _ => by simp [zA, zwR, zup, znew, zwI, zN] <;> omega⟩
    · have hlt : i < zN S := by omega
      obtain ⟨q1, q2, q3⟩ := h3 i hlt hk k o n ho
      have e1 : ∀ j : Nat, i ≠ zN S + j := fun j => by omega
      refine ⟨?_, by show i + o < zN S + 5; omega, fun hn => ?_⟩
      · rw [← q1]
        have n0 : i ≠ S.2.2.2.1 := he
        have n1 : i ≠ S.2.2.2.1 + 1 := e1 1
        have n2 : i ≠ S.2.2.2.1 + 1 + 1 := e1 2
        have n3 : i ≠ S.2.2.2.1 + 1 + 1 + 1 := e1 3
        have n4 : i ≠ S.2.2.2.1 + 1 + 1 + 1 + 1 := e1 4
        simp [zR, zwR, zup, znew, zwI, zN, n0, n1, n2, n3, n4]
      · rw [← q3 hn]
        have n0 : i + o ≠ S.2.2.2.1 := by have : i + o < S.2.2.2.1 := q2; omega
        have n1 : i + o ≠ S.2.2.2.1 + 1 := by have : i + o < S.2.2.2.1 := q2; omega
        have n2 : i + o ≠ S.2.2.2.1 + 1 + 1 := by have : i + o < S.2.2.2.1 := q2; omega
        have n3 : i + o ≠ S.2.2.2.1 + 1 + 1 + 1 := by have : i + o < S.2.2.2.1 := q2; omega
        have n4 : i + o ≠ S.2.2.2.1 + 1 + 1 + 1 + 1 := by have : i + o < S.2.2.2.1 := q2; omega
        simp [zA, zwR, zup, znew, zwI, zN, n0, n1, n2, n3, n4]
  rcases zite h with ⟨c1, h⟩ | ⟨c1, h⟩
  · obtain ⟨k4, h⟩ := zgd_some h
    obtain ⟨-, h⟩ := zgd_some h
    exact main 0 k4 h
  · obtain ⟨k4, h⟩ := zgd_some h
    obtain ⟨-, h⟩ := zgd_some h
    obtain ⟨-, h⟩ := zgd_some h
    exact main _ k4 h
def f_Tx_room (a0 : Nat) (S : zSt) : Int32 := if (zA S (a0 + 4)).toInt32 ≤ zI S a0 1 then (zA S (a0 + 4)).toInt32 else zI S a0 1
def f_Tx_copied (fu : Nat) (a0 : Nat) (S : zSt) : Option (Option Nat × zSt) := zgd (zK (zN S) = 10 ∧ zN S < zX) (zb1 (f_Tx_init (zN S) (f_Tx_room a0 S) (znew S 0)) (fun S3 => f_Tx_copied_34 fu a0 (zN S) (f_Tx_room a0 S) S3))
set_option maxRecDepth 100000 in
set_option maxHeartbeats 4000000 in
theorem m_Tx_copied (l : Launch) {fu : Nat} {a0 : Nat} {r : Option Nat} {S1 : zSt} {S : zSt} (ha0 : zK a0 = 10) (ga0 : a0 < zN S) (h : f_Tx_copied fu a0 S = some (r, S1)) : zPM l y_Tx_copied b_Tx_copied 4 (some (.object "EelClerk$Text")) rm_Tx_copied true true [zr (some a0)] S (some (zr r)) S1 := by
  refine zPM_of (by decide) (Nat.le_of_ble_eq_true rfl) (fun p e s m args below meth c G C hret hname => ?_)
  unfold f_Tx_copied at h
  obtain ⟨g1, h⟩ := zgd_some h
  obtain ⟨S3, h3, h⟩ := zb1_some h
  refine (?_ : zJ p l e rm_Tx_copied s m args below meth c G true 4 0 0 (zQm below G args s rm_Tx_copied true (some (zr r)) S1) S 0 [(0, zr (some a0))] [])
  refine z_fact (fun hSR => ?_)
  obtain ⟨hSR3, hN3⟩ := zSR_Tx hSR g1 h3
  have fin : ∀ x : Int32, x = f_Tx_room a0 S → zJ p l e rm_Tx_copied s m args below meth c G true 4 0 0 (zQm below G args s rm_Tx_copied true (some (zr r)) S1) S 24 [(0, zr (some a0))] [zi x] := by
    intro x hx
    refine z_istore_n C [(1, zi x), (0, zr (some a0))] d_Tx_copied_24 rfl (by decide) rfl ?_
    refine z_weak ?_
    refine z_new C 10 (by decide) g1.1 g1.2 cl_10_10 inst_10 ini_10 (by decide) (by decide) d_Tx_copied_25 ?_
    refine z_dup C rfl d_Tx_copied_28 ?_
    refine z_iload_n C 0 rfl d_Tx_copied_29 rfl ?_
    rw [hx]
    refine z_callI C (m_Tx_init l g1.1 h3) mf_Tx_init (Or.inl lk_10_35) in_Tx_init rfl (Nat.lt_succ_self _) ⟨by decide, by decide, by decide, by decide⟩ rfl _ [zr (some (zN S))] rfl (Nat.le_of_ble_eq_true rfl) d_Tx_copied_30 ?_
    refine z_strong hSR3 ?_
    refine z_astore_n C [(2, zr (some (zN S))), (1, zi (f_Tx_room a0 S)), (0, zr (some a0))] d_Tx_copied_33 rfl (by decide) rfl ?_
    refine z_widen 5 503 (by decide) (by decide) ?_
    refine zq_lsub [2, 1, 0] [(0, zr (some a0)), (1, zi (f_Tx_room a0 S)), (2, zr (some (zN S)))] rfl ?_
    exact c_Tx_copied_34 C hret ha0 g1.1 _ _ (by omega) (by omega) h
  refine z_aload_n C 0 rfl d_Tx_copied_0 rfl ?_
  refine z_getI C 10 (by decide) 1 (by decide) rfl (Or.inr ga0) ha0 zfl_10_9 d_Tx_copied_1 ?_
  refine z_aload_n C 0 rfl d_Tx_copied_4 rfl ?_
  refine z_getF2 C 10 (by decide) 0 (by decide) rfl 4 0 rfl (a0 + 4) rfl (Or.inr ga0) ha0 zfl_10_32 d_Tx_copied_5 ?_
  refine z_alen50 C (Or.inr (ztx_4 hSR ha0 ga0).1) (ztk_4 ha0) d_Tx_copied_8 ?_
  by_cases hc : (zA S (a0 + 4)).toInt32 ≤ zI S a0 1
  · refine z_icmp_get C 19 hc d_Tx_copied_9 (by decide) ?_
    refine z_aload_n C 0 rfl d_Tx_copied_19 rfl ?_
    refine z_getF2 C 10 (by decide) 0 (by decide) rfl 4 0 rfl (a0 + 4) rfl (Or.inr ga0) ha0 zfl_10_32 d_Tx_copied_20 ?_
    refine z_alen50 C (Or.inr (ztx_4 hSR ha0 ga0).1) (ztk_4 ha0) d_Tx_copied_23 ?_
    exact fin _ (by unfold f_Tx_room; rw [if_pos hc])
  · refine z_icmp_gef C 19 hc d_Tx_copied_9 (by decide) ?_
    refine z_aload_n C 0 rfl d_Tx_copied_12 rfl ?_
    refine z_getI C 10 (by decide) 1 (by decide) rfl (Or.inr ga0) ha0 zfl_10_9 d_Tx_copied_13 ?_
    refine z_goto C 24 d_Tx_copied_16 (by decide) ?_
    exact fin _ (by unfold f_Tx_room; rw [if_neg hc])
def y_E_law : MethodName := ⟨zNm 0, "law", "()I"⟩
abbrev b_E_law : ByteArray := prog_1_method_11_code
theorem d_E_law_0 : decode b_E_law 0 = .ok (.aload_n 0, 1) := by decide +kernel
theorem d_E_law_1 : decode b_E_law 1 = .ok (.getfield 12, 3) := by decide +kernel
theorem d_E_law_4 : decode b_E_law 4 = .ok (.getfield 180, 3) := by decide +kernel
theorem d_E_law_7 : decode b_E_law 7 = .ok (.bipush 6, 2) := by decide +kernel
theorem d_E_law_9 : decode b_E_law 9 = .ok (.if_icmp .lt 18, 3) := by decide +kernel
theorem d_E_law_12 : decode b_E_law 12 = .ok (.aload_n 0, 1) := by decide +kernel
theorem d_E_law_13 : decode b_E_law 13 = .ok (.getfield 39, 3) := by decide +kernel
theorem d_E_law_16 : decode b_E_law 16 = .ok (.iconst 0, 1) := by decide +kernel
theorem d_E_law_17 : decode b_E_law 17 = .ok (.putfield 170, 3) := by decide +kernel
theorem d_E_law_20 : decode b_E_law 20 = .ok (.aload_n 0, 1) := by decide +kernel
theorem d_E_law_21 : decode b_E_law 21 = .ok (.bipush (-5), 2) := by decide +kernel
theorem d_E_law_23 : decode b_E_law 23 = .ok (.invokevirtual 109, 3) := by decide +kernel
theorem d_E_law_26 : decode b_E_law 26 = .ok (.ireturn, 1) := by decide +kernel
theorem d_E_law_27 : decode b_E_law 27 = .ok (.aload_n 0, 1) := by decide +kernel
theorem d_E_law_28 : decode b_E_law 28 = .ok (.aload_n 0, 1) := by decide +kernel
theorem d_E_law_29 : decode b_E_law 29 = .ok (.getfield 46, 3) := by decide +kernel
theorem d_E_law_32 : decode b_E_law 32 = .ok (.aload_n 0, 1) := by decide +kernel
theorem d_E_law_33 : decode b_E_law 33 = .ok (.getfield 39, 3) := by decide +kernel
theorem d_E_law_36 : decode b_E_law 36 = .ok (.iconst 0, 1) := by decide +kernel
theorem d_E_law_37 : decode b_E_law 37 = .ok (.invokevirtual 183, 3) := by decide +kernel
theorem d_E_law_40 : decode b_E_law 40 = .ok (.putfield 100, 3) := by decide +kernel
theorem d_E_law_43 : decode b_E_law 43 = .ok (.aload_n 0, 1) := by decide +kernel
theorem d_E_law_44 : decode b_E_law 44 = .ok (.getfield 39, 3) := by decide +kernel
theorem d_E_law_47 : decode b_E_law 47 = .ok (.iconst 0, 1) := by decide +kernel
theorem d_E_law_48 : decode b_E_law 48 = .ok (.putfield 170, 3) := by decide +kernel
theorem d_E_law_51 : decode b_E_law 51 = .ok (.aload_n 0, 1) := by decide +kernel
theorem d_E_law_52 : decode b_E_law 52 = .ok (.getfield 100, 3) := by decide +kernel
theorem d_E_law_55 : decode b_E_law 55 = .ok (.iconst (-1), 1) := by decide +kernel
theorem d_E_law_56 : decode b_E_law 56 = .ok (.if_icmp .eq 10, 3) := by decide +kernel
theorem d_E_law_59 : decode b_E_law 59 = .ok (.aload_n 0, 1) := by decide +kernel
theorem d_E_law_60 : decode b_E_law 60 = .ok (.bipush (-6), 2) := by decide +kernel
theorem d_E_law_62 : decode b_E_law 62 = .ok (.invokevirtual 109, 3) := by decide +kernel
theorem d_E_law_65 : decode b_E_law 65 = .ok (.ireturn, 1) := by decide +kernel
theorem d_E_law_66 : decode b_E_law 66 = .ok (.aload_n 0, 1) := by decide +kernel
theorem d_E_law_67 : decode b_E_law 67 = .ok (.aload_n 0, 1) := by decide +kernel
theorem d_E_law_68 : decode b_E_law 68 = .ok (.getfield 12, 3) := by decide +kernel
theorem d_E_law_71 : decode b_E_law 71 = .ok (.aload_n 0, 1) := by decide +kernel
theorem d_E_law_72 : decode b_E_law 72 = .ok (.getfield 46, 3) := by decide +kernel
theorem d_E_law_75 : decode b_E_law 75 = .ok (.getfield 187, 3) := by decide +kernel
theorem d_E_law_78 : decode b_E_law 78 = .ok (.invokevirtual 191, 3) := by decide +kernel
theorem d_E_law_81 : decode b_E_law 81 = .ok (.invokevirtual 196, 3) := by decide +kernel
theorem d_E_law_84 : decode b_E_law 84 = .ok (.invokevirtual 123, 3) := by decide +kernel
theorem d_E_law_87 : decode b_E_law 87 = .ok (.ireturn, 1) := by decide +kernel
theorem mf_E_law : zMF y_E_law b_E_law 1 (some .int) 0 := ⟨zGW_in 653 (by decide +kernel) (by decide +kernel), zGW_in 124 (by decide +kernel) (by decide +kernel), by decide +kernel⟩
theorem in_E_law : Cond.instanceMethod y_E_law ∈ zGW := zGW_in 651 (by decide +kernel) (by decide +kernel)
theorem se_E_law : Cond.selects y_E_law.cls y_E_law y_E_law ∈ zGW := zGW_in 652 (by decide +kernel) (by decide +kernel)
theorem lk_0_191 : Cond.methodLink (zNm 0) 191 y_Tx_copied ∈ zGW := zGW_in 860 (by decide +kernel) (by decide +kernel)
theorem lk_0_196 : Cond.methodLink (zNm 0) 196 y_Ps_addLaw ∈ zGW := zGW_in 869 (by decide +kernel) (by decide +kernel)
abbrev rm_E_law : Room := { frames := 77, cells := 5, slots := 503, locals := 2050 }
def f_E_law (fu : Nat) (S : zSt) : Option (Int32 × zSt) := if (zI S 1 12) < (6 : Int32) then zb2 (f_Re_faultIn fu (0 : Int32) S) (fun r3 S4 => if (zI (zwI (zwI S4 0 17 r3) 44 1 (0 : Int32)) 0 17) = (-1 : Int32) then zb2 (f_Tx_copied fu 47 (zwI (zwI S4 0 17 r3) 44 1 (0 : Int32))) (fun r7 S8 => zb2 (f_Ps_addLaw 1 r7 S8) (fun r10 S11 => zb2 (f_E_granted r10 S11) (fun r13 S14 => some (r13, S14)))) else zb2 (f_E_refused (-6 : Int32) (zwI (zwI S4 0 17 r3) 44 1 (0 : Int32))) (fun r16 S17 => some (r16, S17))) else zb2 (f_E_refused (-5 : Int32) (zwI S 44 1 (0 : Int32))) (fun r19 S20 => some (r19, S20))
set_option maxRecDepth 100000 in
set_option maxHeartbeats 4000000 in
theorem m_E_law (l : Launch) {fu : Nat} {S : zSt} {r : Int32} {S1 : zSt} (h : f_E_law fu  S = some (r, S1)) : zPM l y_E_law b_E_law 1 (some .int) rm_E_law true true [zr (some 0)] S (some (zi r)) S1 := by
  refine zPM_of (by decide) (Nat.le_of_ble_eq_true rfl) (fun p e s m args below meth c G C hret hname => ?_)
  unfold f_E_law at h
  refine (?_ : zJ p l e rm_E_law s m args below meth c G true 1 0 0 (zQm below G args s rm_E_law true (some (zi r)) S1) S 0 [(0, zr (some 0))] [])
  refine z_aload_n C 0 rfl d_E_law_0 rfl ?_
  refine z_getF2 C 0 (by decide) 0 (by decide) rfl 1 0 rfl (1) rfl zp_0 zk_0 zfl_0_12 d_E_law_1 ?_
  refine z_getI C 5 (by decide) 12 (by decide) rfl zo_1 zk_1 zfl_0_180 d_E_law_4 ?_
  refine z_bipush C (6 : Int32) (by decide) d_E_law_7 ?_
  rcases zite h with ⟨c1, h⟩ | ⟨c1, h⟩
  · refine z_icmp_ltt C 27 c1 d_E_law_9 (by decide) ?_
    refine z_aload_n C 0 rfl d_E_law_27 rfl ?_
    refine z_aload_n C 0 rfl d_E_law_28 rfl ?_
    refine z_getF2 C 0 (by decide) 7 (by decide) rfl 46 0 rfl (46) rfl zp_0 zk_0 zfl_0_46 d_E_law_29 ?_
    refine z_aload_n C 0 rfl d_E_law_32 rfl ?_
    refine z_getF2 C 0 (by decide) 6 (by decide) rfl 44 0 rfl (44) rfl zp_0 zk_0 zfl_0_39 d_E_law_33 ?_
    refine z_iconst C (0 : Int32) (by decide) d_E_law_36 ?_
    obtain ⟨r3, S4, h2, h⟩ := zb2_some h
    refine z_cV C 6 (by decide) (m_Re_faultIn l h2) mf_Re_faultIn lk_0_183 in_Re_faultIn se_Re_faultIn rfl zo_46 zk_46 ⟨rfl, rfl⟩ ⟨by decide, by decide⟩ ⟨by decide, by decide⟩ rfl _ [zr (some 0)] rfl (Nat.le_of_ble_eq_true rfl) d_E_law_37 ?_
    refine z_putI C 0 (by decide) 17 (by decide) rfl (Or.inl rfl) zo_0 zk_0 zfl_0_100 (Or.inl rfl) d_E_law_40 ?_
    refine z_aload_n C 0 rfl d_E_law_43 rfl ?_
    refine z_getF2 C 0 (by decide) 6 (by decide) rfl 44 0 rfl (44) rfl zp_0 zk_0 zfl_0_39 d_E_law_44 ?_
    refine z_iconst C (0 : Int32) (by decide) d_E_law_47 ?_
    refine z_putI C 9 (by decide) 1 (by decide) rfl (Or.inl rfl) zo_44 zk_44 zfl_0_170 (Or.inl rfl) d_E_law_48 ?_
    refine z_aload_n C 0 rfl d_E_law_51 rfl ?_
    refine z_getI C 0 (by decide) 17 (by decide) rfl zo_0 zk_0 zfl_0_100 d_E_law_52 ?_
    refine z_iconst C (-1 : Int32) (by decide) d_E_law_55 ?_
    rcases zite h with ⟨c5, h⟩ | ⟨c5, h⟩
    · refine z_icmp_eqt C 66 c5 d_E_law_56 (by decide) ?_
      refine z_aload_n C 0 rfl d_E_law_66 rfl ?_
      refine z_aload_n C 0 rfl d_E_law_67 rfl ?_
      refine z_getF2 C 0 (by decide) 0 (by decide) rfl 1 0 rfl (1) rfl zp_0 zk_0 zfl_0_12 d_E_law_68 ?_
      refine z_aload_n C 0 rfl d_E_law_71 rfl ?_
      refine z_getF2 C 0 (by decide) 7 (by decide) rfl 46 0 rfl (46) rfl zp_0 zk_0 zfl_0_46 d_E_law_72 ?_
      refine z_getF2 C 6 (by decide) 0 (by decide) rfl 1 0 rfl (47) rfl zp_46 zk_46 zfl_0_187 d_E_law_75 ?_
      refine z_fact (fun hSR => ?_)
      obtain ⟨r7, S8, h6, h⟩ := zb2_some h
      refine z_callV C 10 (by decide) (m_Tx_copied l zk_47 (Nat.lt_of_lt_of_le (Nat.le_of_ble_eq_true rfl) hSR.1) h6) mf_Tx_copied lk_0_191 in_Tx_copied (Or.inl se_Tx_copied) rfl zo_47 zk_47 ⟨by decide, by decide, by decide, by decide⟩ rfl _ [zr (some 1), zr (some 0)] rfl (Nat.le_of_ble_eq_true rfl) d_E_law_78 ?_
      obtain ⟨r10, S11, h9, h⟩ := zb2_some h
      refine z_cV C 5 (by decide) (m_Ps_addLaw l zk_1 (Nat.le_of_ble_eq_true rfl) h9) mf_Ps_addLaw lk_0_196 in_Ps_addLaw se_Ps_addLaw rfl zo_1 zk_1 ⟨rfl, rfl⟩ ⟨by decide, by decide⟩ ⟨by decide, by decide⟩ rfl _ [zr (some 0)] rfl (Nat.le_of_ble_eq_true rfl) d_E_law_81 ?_
      obtain ⟨r13, S14, h12, h⟩ := zb2_some h
      refine z_cV C 0 (by decide) (m_E_granted l h12) mf_E_granted lk_0_123 in_E_granted se_E_granted rfl zo_0 zk_0 ⟨rfl, rfl⟩ ⟨by decide, by decide⟩ ⟨by decide, by decide⟩ rfl _ [] rfl (Nat.le_of_ble_eq_true rfl) d_E_law_84 ?_
      cases h
      exact z_iret C .int hret rfl ⟨by decide, by decide⟩ d_E_law_87
    · refine z_icmp_eqf C 66 c5 d_E_law_56 (by decide) ?_
      refine z_aload_n C 0 rfl d_E_law_59 rfl ?_
      refine z_bipush C (-6 : Int32) (by decide) d_E_law_60 ?_
      obtain ⟨r16, S17, h15, h⟩ := zb2_some h
      refine z_cV C 0 (by decide) (m_E_refused l h15) mf_E_refused lk_0_109 in_E_refused se_E_refused rfl zo_0 zk_0 ⟨rfl, rfl⟩ ⟨by decide, by decide⟩ ⟨by decide, by decide⟩ rfl _ [] rfl (Nat.le_of_ble_eq_true rfl) d_E_law_62 ?_
      cases h
      exact z_iret C .int hret rfl ⟨by decide, by decide⟩ d_E_law_65
  · refine z_icmp_ltf C 27 c1 d_E_law_9 (by decide) ?_
    refine z_aload_n C 0 rfl d_E_law_12 rfl ?_
    refine z_getF2 C 0 (by decide) 6 (by decide) rfl 44 0 rfl (44) rfl zp_0 zk_0 zfl_0_39 d_E_law_13 ?_
    refine z_iconst C (0 : Int32) (by decide) d_E_law_16 ?_
    refine z_putI C 9 (by decide) 1 (by decide) rfl (Or.inl rfl) zo_44 zk_44 zfl_0_170 (Or.inl rfl) d_E_law_17 ?_
    refine z_aload_n C 0 rfl d_E_law_20 rfl ?_
    refine z_bipush C (-5 : Int32) (by decide) d_E_law_21 ?_
    obtain ⟨r19, S20, h18, h⟩ := zb2_some h
    refine z_cV C 0 (by decide) (m_E_refused l h18) mf_E_refused lk_0_109 in_E_refused se_E_refused rfl zo_0 zk_0 ⟨rfl, rfl⟩ ⟨by decide, by decide⟩ ⟨by decide, by decide⟩ rfl _ [] rfl (Nat.le_of_ble_eq_true rfl) d_E_law_23 ?_
    cases h
    exact z_iret C .int hret rfl ⟨by decide, by decide⟩ d_E_law_26
