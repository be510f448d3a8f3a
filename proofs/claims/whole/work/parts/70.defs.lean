/-! THE METHODS' PLACES, EACH BY ITS NAME -/
theorem hd_ok9 {μ h0 pc : Nat} {j : Fin 4} {x : ExceptionTableEntry} {E : String} {lo : ALo} (hc : covers x pc = true ∧ ((E = "java/lang/IllegalStateException" ∧ ((mO μ = 11 ∧ x.catchType = 150) ∨ (mO μ = 13 ∧ x.catchType = 19))) ∨ (E = "java/lang/IllegalArgumentException" ∧ mO μ = 13 ∧ x.catchType = 13))) (hx : x.handlerPc = h0) (hd : decode (mC μ) h0 = .ok (.astore_n j, 1)) (hl : (j : Nat) < mL μ) : am_hd μ x pc E lo = some (h0 + 1, lo.filter (fun q => !(q.1 == (j : Nat)) && !(q.1 + 1 == (j : Nat) && q.2.category == 2))) := by
  subst hx
  unfold am_hd
  rw [if_pos hc, hd]
  exact if_pos hl
theorem mf_16 : MFa 16 1 0 0 := ⟨by decide +kernel, by decide +kernel, by decide +kernel, by show mT 16 = none; decide +kernel⟩
theorem mh_16 : HdOK 16 none := by show mH 16 = []; decide +kernel
theorem mf_17 : MFa 17 1 0 0 := ⟨by decide +kernel, by decide +kernel, by decide +kernel, by show mT 17 = none; decide +kernel⟩
theorem mh_17 : HdOK 17 none := by show mH 17 = []; decide +kernel
theorem mf_18 : MFa 18 2 0 1 := ⟨by decide +kernel, by decide +kernel, by decide +kernel, by show mT 18 = some .int; decide +kernel⟩
theorem mh_18 : HdOK 18 none := by show mH 18 = []; decide +kernel
theorem mf_19 : MFa 19 2 0 2 := ⟨by decide +kernel, by decide +kernel, by decide +kernel, by show mT 19 = some .boolean; decide +kernel⟩
theorem mh_19 : HdOK 19 none := by show mH 19 = []; decide +kernel
theorem mf_20 : MFa 20 8 0 0 := ⟨by decide +kernel, by decide +kernel, by decide +kernel, by show mT 20 = none; decide +kernel⟩
theorem mh_20 : HdOK 20 none := by show mH 20 = []; decide +kernel
theorem mf_21 : MFa 21 4 0 0 := ⟨by decide +kernel, by decide +kernel, by decide +kernel, by show mT 21 = none; decide +kernel⟩
theorem mh_21 : HdOK 21 none := by show mH 21 = []; decide +kernel
theorem mf_22 : MFa 22 8 0 2 := ⟨by decide +kernel, by decide +kernel, by decide +kernel, by show mT 22 = some .boolean; decide +kernel⟩
theorem mh_22 : HdOK 22 none := by show mH 22 = []; decide +kernel
theorem mf_23 : MFa 23 12 0 0 := ⟨by decide +kernel, by decide +kernel, by decide +kernel, by show mT 23 = none; decide +kernel⟩
theorem mh_23 : HdOK 23 none := by show mH 23 = []; decide +kernel
theorem mf_24 : MFa 24 8 0 1 := ⟨by decide +kernel, by decide +kernel, by decide +kernel, by show mT 24 = some .int; decide +kernel⟩
theorem mh_24 : HdOK 24 none := by show mH 24 = []; decide +kernel
theorem mf_25 : MFa 25 4 0 0 := ⟨by decide +kernel, by decide +kernel, by decide +kernel, by show mT 25 = none; decide +kernel⟩
theorem mh_25 : HdOK 25 none := by show mH 25 = []; decide +kernel
theorem mf_26 : MFa 26 15 0 0 := ⟨by decide +kernel, by decide +kernel, by decide +kernel, by show mT 26 = none; decide +kernel⟩
theorem mh_26 : HdOK 26 none := by show mH 26 = []; decide +kernel
theorem mf_27 : MFa 27 7 0 2 := ⟨by decide +kernel, by decide +kernel, by decide +kernel, by show mT 27 = some .boolean; decide +kernel⟩
theorem mh_27 : HdOK 27 none := by show mH 27 = []; decide +kernel
theorem mf_28 : MFa 28 6 0 0 := ⟨by decide +kernel, by decide +kernel, by decide +kernel, by show mT 28 = none; decide +kernel⟩
theorem mh_28 : HdOK 28 none := by show mH 28 = []; decide +kernel
theorem mf_29 : MFa 29 10 0 1 := ⟨by decide +kernel, by decide +kernel, by decide +kernel, by show mT 29 = some .int; decide +kernel⟩
theorem mh_29 : HdOK 29 none := by show mH 29 = []; decide +kernel
theorem mf_30 : MFa 30 14 0 0 := ⟨by decide +kernel, by decide +kernel, by decide +kernel, by show mT 30 = none; decide +kernel⟩
theorem mh_30 : HdOK 30 none := by show mH 30 = []; decide +kernel
theorem mf_31 : MFa 31 1 1 0 := ⟨by decide +kernel, by decide +kernel, by decide +kernel, by show mT 31 = none; decide +kernel⟩
theorem mh_31 : HdOK 31 none := by show mH 31 = []; decide +kernel
theorem mf_32 : MFa 32 2 1 0 := ⟨by decide +kernel, by decide +kernel, by decide +kernel, by show mT 32 = none; decide +kernel⟩
theorem mh_32 : HdOK 32 none := by show mH 32 = []; decide +kernel
theorem mf_33 : MFa 33 5 1 0 := ⟨by decide +kernel, by decide +kernel, by decide +kernel, by show mT 33 = none; decide +kernel⟩
theorem mh_33 : HdOK 33 none := by show mH 33 = []; decide +kernel
theorem mf_34 : MFa 34 5 1 0 := ⟨by decide +kernel, by decide +kernel, by decide +kernel, by show mT 34 = none; decide +kernel⟩
theorem mh_34 : HdOK 34 none := by show mH 34 = []; decide +kernel
theorem mf_35 : MFa 35 8 1 1 := ⟨by decide +kernel, by decide +kernel, by decide +kernel, by show mT 35 = some .int; decide +kernel⟩
theorem mh_35 : HdOK 35 none := by show mH 35 = []; decide +kernel
theorem mf_36 : MFa 36 3 1 1 := ⟨by decide +kernel, by decide +kernel, by decide +kernel, by show mT 36 = some .int; decide +kernel⟩
theorem mh_36 : HdOK 36 none := by show mH 36 = []; decide +kernel
theorem mf_37 : MFa 37 4 1 0 := ⟨by decide +kernel, by decide +kernel, by decide +kernel, by show mT 37 = none; decide +kernel⟩
theorem mh_37 : HdOK 37 none := by show mH 37 = []; decide +kernel
theorem mf_38 : MFa 38 1 2 0 := ⟨by decide +kernel, by decide +kernel, by decide +kernel, by show mT 38 = none; decide +kernel⟩
theorem mh_38 : HdOK 38 none := by show mH 38 = []; decide +kernel
theorem mf_39 : MFa 39 2 2 2 := ⟨by decide +kernel, by decide +kernel, by decide +kernel, by show mT 39 = some .boolean; decide +kernel⟩
theorem mh_39 : HdOK 39 none := by show mH 39 = []; decide +kernel
theorem mf_40 : MFa 40 3 2 0 := ⟨by decide +kernel, by decide +kernel, by decide +kernel, by show mT 40 = none; decide +kernel⟩
theorem mh_40 : HdOK 40 none := by show mH 40 = []; decide +kernel
theorem mf_41 : MFa 41 5 2 0 := ⟨by decide +kernel, by decide +kernel, by decide +kernel, by show mT 41 = none; decide +kernel⟩
theorem mh_41 : HdOK 41 none := by show mH 41 = []; decide +kernel
theorem mf_42 : MFa 42 11 2 1 := ⟨by decide +kernel, by decide +kernel, by decide +kernel, by show mT 42 = some .int; decide +kernel⟩
theorem mh_42 : HdOK 42 none := by show mH 42 = []; decide +kernel
theorem mf_43 : MFa 43 5 2 0 := ⟨by decide +kernel, by decide +kernel, by decide +kernel, by show mT 43 = none; decide +kernel⟩
theorem mh_43 : HdOK 43 none := by show mH 43 = []; decide +kernel
theorem mf_44 : MFa 44 2 3 0 := ⟨by decide +kernel, by decide +kernel, by decide +kernel, by show mT 44 = none; decide +kernel⟩
theorem mh_44 : HdOK 44 none := by show mH 44 = []; decide +kernel
theorem mf_45 : MFa 45 2 3 0 := ⟨by decide +kernel, by decide +kernel, by decide +kernel, by show mT 45 = none; decide +kernel⟩
theorem mh_45 : HdOK 45 none := by show mH 45 = []; decide +kernel
theorem mf_46 : MFa 46 1 3 1 := ⟨by decide +kernel, by decide +kernel, by decide +kernel, by show mT 46 = some .int; decide +kernel⟩
theorem mh_46 : HdOK 46 none := by show mH 46 = []; decide +kernel
theorem mf_47 : MFa 47 2 3 1 := ⟨by decide +kernel, by decide +kernel, by decide +kernel, by show mT 47 = some .int; decide +kernel⟩
theorem mh_47 : HdOK 47 none := by show mH 47 = []; decide +kernel
theorem mf_48 : MFa 48 3 3 1 := ⟨by decide +kernel, by decide +kernel, by decide +kernel, by show mT 48 = some .int; decide +kernel⟩
theorem mh_48 : HdOK 48 none := by show mH 48 = []; decide +kernel
theorem mf_49 : MFa 49 2 3 1 := ⟨by decide +kernel, by decide +kernel, by decide +kernel, by show mT 49 = some .int; decide +kernel⟩
theorem mh_49 : HdOK 49 none := by show mH 49 = []; decide +kernel
theorem mf_50 : MFa 50 5 3 0 := ⟨by decide +kernel, by decide +kernel, by decide +kernel, by show mT 50 = none; decide +kernel⟩
theorem mh_50 : HdOK 50 none := by show mH 50 = []; decide +kernel
theorem mf_51 : MFa 51 9 3 0 := ⟨by decide +kernel, by decide +kernel, by decide +kernel, by show mT 51 = none; decide +kernel⟩
theorem mh_51 : HdOK 51 none := by show mH 51 = []; decide +kernel
theorem mf_52 : MFa 52 9 3 0 := ⟨by decide +kernel, by decide +kernel, by decide +kernel, by show mT 52 = none; decide +kernel⟩
theorem mh_52 : HdOK 52 none := by show mH 52 = []; decide +kernel
theorem mf_53 : MFa 53 8 3 0 := ⟨by decide +kernel, by decide +kernel, by decide +kernel, by show mT 53 = none; decide +kernel⟩
theorem mh_53 : HdOK 53 none := by show mH 53 = []; decide +kernel
theorem mf_54 : MFa 54 3 3 0 := ⟨by decide +kernel, by decide +kernel, by decide +kernel, by show mT 54 = none; decide +kernel⟩
theorem mh_54 : HdOK 54 none := by show mH 54 = []; decide +kernel
theorem mf_55 : MFa 55 4 3 0 := ⟨by decide +kernel, by decide +kernel, by decide +kernel, by show mT 55 = none; decide +kernel⟩
theorem mh_55 : HdOK 55 none := by show mH 55 = []; decide +kernel
theorem mf_56 : MFa 56 4 3 2 := ⟨by decide +kernel, by decide +kernel, by decide +kernel, by show mT 56 = some .boolean; decide +kernel⟩
theorem mh_56 : HdOK 56 none := by show mH 56 = []; decide +kernel
theorem mf_57 : MFa 57 4 3 1 := ⟨by decide +kernel, by decide +kernel, by decide +kernel, by show mT 57 = some .int; decide +kernel⟩
theorem mh_57 : HdOK 57 none := by show mH 57 = []; decide +kernel
theorem mf_58 : MFa 58 11 3 1 := ⟨by decide +kernel, by decide +kernel, by decide +kernel, by show mT 58 = some .int; decide +kernel⟩
theorem mh_58 : HdOK 58 none := by show mH 58 = []; decide +kernel
theorem mf_59 : MFa 59 1 4 0 := ⟨by decide +kernel, by decide +kernel, by decide +kernel, by show mT 59 = none; decide +kernel⟩
theorem mh_59 : HdOK 59 none := by show mH 59 = []; decide +kernel
theorem mf_60 : MFa 60 2 4 2 := ⟨by decide +kernel, by decide +kernel, by decide +kernel, by show mT 60 = some .boolean; decide +kernel⟩
theorem mh_60 : HdOK 60 none := by show mH 60 = []; decide +kernel
theorem mf_61 : MFa 61 2 4 0 := ⟨by decide +kernel, by decide +kernel, by decide +kernel, by show mT 61 = none; decide +kernel⟩
theorem mh_61 : HdOK 61 none := by show mH 61 = []; decide +kernel
theorem mf_62 : MFa 62 2 4 0 := ⟨by decide +kernel, by decide +kernel, by decide +kernel, by show mT 62 = none; decide +kernel⟩
theorem mh_62 : HdOK 62 none := by show mH 62 = []; decide +kernel
theorem mf_63 : MFa 63 10 5 0 := ⟨by decide +kernel, by decide +kernel, by decide +kernel, by show mT 63 = none; decide +kernel⟩
theorem mh_63 : HdOK 63 none := by show mH 63 = []; decide +kernel
theorem mf_64 : MFa 64 3 5 0 := ⟨by decide +kernel, by decide +kernel, by decide +kernel, by show mT 64 = none; decide +kernel⟩
theorem mh_64 : HdOK 64 none := by show mH 64 = []; decide +kernel
theorem mf_65 : MFa 65 9 5 0 := ⟨by decide +kernel, by decide +kernel, by decide +kernel, by show mT 65 = none; decide +kernel⟩
theorem mh_65 : HdOK 65 none := by show mH 65 = []; decide +kernel
theorem mf_66 : MFa 66 8 5 0 := ⟨by decide +kernel, by decide +kernel, by decide +kernel, by show mT 66 = none; decide +kernel⟩
theorem mh_66 : HdOK 66 none := by show mH 66 = []; decide +kernel
theorem mf_67 : MFa 67 8 5 0 := ⟨by decide +kernel, by decide +kernel, by decide +kernel, by show mT 67 = none; decide +kernel⟩
theorem mh_67 : HdOK 67 none := by show mH 67 = []; decide +kernel
theorem mf_68 : MFa 68 2 6 1 := ⟨by decide +kernel, by decide +kernel, by decide +kernel, by show mT 68 = some .int; decide +kernel⟩
theorem mh_68 : HdOK 68 none := by show mH 68 = []; decide +kernel
theorem mf_69 : MFa 69 9 6 1 := ⟨by decide +kernel, by decide +kernel, by decide +kernel, by show mT 69 = some .int; decide +kernel⟩
theorem mh_69 : HdOK 69 none := by show mH 69 = []; decide +kernel
theorem mf_70 : MFa 70 7 6 1 := ⟨by decide +kernel, by decide +kernel, by decide +kernel, by show mT 70 = some .int; decide +kernel⟩
theorem mh_70 : HdOK 70 none := by show mH 70 = []; decide +kernel
theorem mf_71 : MFa 71 8 6 0 := ⟨by decide +kernel, by decide +kernel, by decide +kernel, by show mT 71 = none; decide +kernel⟩
theorem mh_71 : HdOK 71 none := by show mH 71 = []; decide +kernel
theorem mf_72 : MFa 72 10 6 0 := ⟨by decide +kernel, by decide +kernel, by decide +kernel, by show mT 72 = none; decide +kernel⟩
theorem mh_72 : HdOK 72 none := by show mH 72 = []; decide +kernel
theorem mf_73 : MFa 73 9 6 0 := ⟨by decide +kernel, by decide +kernel, by decide +kernel, by show mT 73 = none; decide +kernel⟩
theorem mh_73 : HdOK 73 none := by show mH 73 = []; decide +kernel
theorem mf_74 : MFa 74 6 6 2 := ⟨by decide +kernel, by decide +kernel, by decide +kernel, by show mT 74 = some .boolean; decide +kernel⟩
theorem mh_74 : HdOK 74 none := by show mH 74 = []; decide +kernel
theorem mf_75 : MFa 75 5 6 2 := ⟨by decide +kernel, by decide +kernel, by decide +kernel, by show mT 75 = some .boolean; decide +kernel⟩
theorem mh_75 : HdOK 75 none := by show mH 75 = []; decide +kernel
theorem mf_76 : MFa 76 5 7 0 := ⟨by decide +kernel, by decide +kernel, by decide +kernel, by show mT 76 = none; decide +kernel⟩
theorem mh_76 : HdOK 76 none := by show mH 76 = []; decide +kernel
theorem mf_77 : MFa 77 1 7 0 := ⟨by decide +kernel, by decide +kernel, by decide +kernel, by show mT 77 = none; decide +kernel⟩
theorem mh_77 : HdOK 77 none := by show mH 77 = []; decide +kernel
theorem mf_78 : MFa 78 3 7 0 := ⟨by decide +kernel, by decide +kernel, by decide +kernel, by show mT 78 = none; decide +kernel⟩
theorem mh_78 : HdOK 78 none := by show mH 78 = []; decide +kernel
theorem mf_79 : MFa 79 7 7 1 := ⟨by decide +kernel, by decide +kernel, by decide +kernel, by show mT 79 = some .int; decide +kernel⟩
theorem mh_79 : HdOK 79 none := by show mH 79 = []; decide +kernel
theorem mf_80 : MFa 80 5 7 1 := ⟨by decide +kernel, by decide +kernel, by decide +kernel, by show mT 80 = some .int; decide +kernel⟩
theorem mh_80 : HdOK 80 none := by show mH 80 = []; decide +kernel
theorem mf_81 : MFa 81 7 7 0 := ⟨by decide +kernel, by decide +kernel, by decide +kernel, by show mT 81 = none; decide +kernel⟩
theorem mh_81 : HdOK 81 none := by show mH 81 = []; decide +kernel
theorem mf_82 : MFa 82 1 7 0 := ⟨by decide +kernel, by decide +kernel, by decide +kernel, by show mT 82 = none; decide +kernel⟩
theorem mh_82 : HdOK 82 none := by show mH 82 = []; decide +kernel
theorem mf_83 : MFa 83 4 7 0 := ⟨by decide +kernel, by decide +kernel, by decide +kernel, by show mT 83 = none; decide +kernel⟩
theorem mh_83 : HdOK 83 none := by show mH 83 = []; decide +kernel
theorem mf_84 : MFa 84 1 7 1 := ⟨by decide +kernel, by decide +kernel, by decide +kernel, by show mT 84 = some .int; decide +kernel⟩
theorem mh_84 : HdOK 84 none := by show mH 84 = []; decide +kernel
theorem mf_85 : MFa 85 5 7 1 := ⟨by decide +kernel, by decide +kernel, by decide +kernel, by show mT 85 = some .int; decide +kernel⟩
theorem mh_85 : HdOK 85 none := by show mH 85 = []; decide +kernel
theorem mf_86 : MFa 86 5 7 0 := ⟨by decide +kernel, by decide +kernel, by decide +kernel, by show mT 86 = none; decide +kernel⟩
theorem mh_86 : HdOK 86 none := by show mH 86 = []; decide +kernel
theorem mf_87 : MFa 87 7 7 0 := ⟨by decide +kernel, by decide +kernel, by decide +kernel, by show mT 87 = none; decide +kernel⟩
theorem mh_87 : HdOK 87 none := by show mH 87 = []; decide +kernel
theorem mf_88 : MFa 88 3 7 0 := ⟨by decide +kernel, by decide +kernel, by decide +kernel, by show mT 88 = none; decide +kernel⟩
theorem mh_88 : HdOK 88 none := by show mH 88 = []; decide +kernel
theorem mf_89 : MFa 89 7 7 0 := ⟨by decide +kernel, by decide +kernel, by decide +kernel, by show mT 89 = none; decide +kernel⟩
theorem mh_89 : HdOK 89 none := by show mH 89 = []; decide +kernel
theorem mf_90 : MFa 90 10 7 0 := ⟨by decide +kernel, by decide +kernel, by decide +kernel, by show mT 90 = none; decide +kernel⟩
theorem mh_90 : HdOK 90 none := by show mH 90 = []; decide +kernel
theorem mf_91 : MFa 91 3 7 0 := ⟨by decide +kernel, by decide +kernel, by decide +kernel, by show mT 91 = none; decide +kernel⟩
theorem mh_91 : HdOK 91 none := by show mH 91 = []; decide +kernel
theorem mf_92 : MFa 92 9 7 0 := ⟨by decide +kernel, by decide +kernel, by decide +kernel, by show mT 92 = none; decide +kernel⟩
theorem mh_92 : HdOK 92 none := by show mH 92 = []; decide +kernel
theorem mf_93 : MFa 93 3 7 1 := ⟨by decide +kernel, by decide +kernel, by decide +kernel, by show mT 93 = some .int; decide +kernel⟩
theorem mh_93 : HdOK 93 none := by show mH 93 = []; decide +kernel
theorem mf_94 : MFa 94 7 7 0 := ⟨by decide +kernel, by decide +kernel, by decide +kernel, by show mT 94 = none; decide +kernel⟩
theorem mh_94 : HdOK 94 none := by show mH 94 = []; decide +kernel
theorem mf_95 : MFa 95 5 7 0 := ⟨by decide +kernel, by decide +kernel, by decide +kernel, by show mT 95 = none; decide +kernel⟩
theorem mh_95 : HdOK 95 none := by show mH 95 = []; decide +kernel
theorem mf_96 : MFa 96 5 7 0 := ⟨by decide +kernel, by decide +kernel, by decide +kernel, by show mT 96 = none; decide +kernel⟩
theorem mh_96 : HdOK 96 none := by show mH 96 = []; decide +kernel
theorem mf_97 : MFa 97 5 7 0 := ⟨by decide +kernel, by decide +kernel, by decide +kernel, by show mT 97 = none; decide +kernel⟩
theorem mh_97 : HdOK 97 none := by show mH 97 = []; decide +kernel
theorem mf_98 : MFa 98 2 7 0 := ⟨by decide +kernel, by decide +kernel, by decide +kernel, by show mT 98 = none; decide +kernel⟩
theorem mh_98 : HdOK 98 none := by show mH 98 = []; decide +kernel
theorem mf_99 : MFa 99 1 8 0 := ⟨by decide +kernel, by decide +kernel, by decide +kernel, by show mT 99 = none; decide +kernel⟩
theorem mh_99 : HdOK 99 none := by show mH 99 = []; decide +kernel
theorem mf_100 : MFa 100 1 8 0 := ⟨by decide +kernel, by decide +kernel, by decide +kernel, by show mT 100 = none; decide +kernel⟩
theorem mh_100 : HdOK 100 none := by show mH 100 = []; decide +kernel
theorem mf_101 : MFa 101 1 8 1 := ⟨by decide +kernel, by decide +kernel, by decide +kernel, by show mT 101 = some .int; decide +kernel⟩
theorem mh_101 : HdOK 101 none := by show mH 101 = []; decide +kernel
theorem mf_102 : MFa 102 2 8 0 := ⟨by decide +kernel, by decide +kernel, by decide +kernel, by show mT 102 = none; decide +kernel⟩
theorem mh_102 : HdOK 102 none := by show mH 102 = []; decide +kernel
theorem mf_103 : MFa 103 2 8 2 := ⟨by decide +kernel, by decide +kernel, by decide +kernel, by show mT 103 = some .boolean; decide +kernel⟩
theorem mh_103 : HdOK 103 none := by show mH 103 = []; decide +kernel
theorem mf_104 : MFa 104 5 8 1 := ⟨by decide +kernel, by decide +kernel, by decide +kernel, by show mT 104 = some .int; decide +kernel⟩
theorem mh_104 : HdOK 104 none := by show mH 104 = []; decide +kernel
theorem mf_105 : MFa 105 2 9 0 := ⟨by decide +kernel, by decide +kernel, by decide +kernel, by show mT 105 = none; decide +kernel⟩
theorem mh_105 : HdOK 105 none := by show mH 105 = []; decide +kernel
theorem mf_106 : MFa 106 9 9 0 := ⟨by decide +kernel, by decide +kernel, by decide +kernel, by show mT 106 = none; decide +kernel⟩
theorem mh_106 : HdOK 106 none := by show mH 106 = []; decide +kernel
theorem mf_107 : MFa 107 3 9 2 := ⟨by decide +kernel, by decide +kernel, by decide +kernel, by show mT 107 = some .boolean; decide +kernel⟩
theorem mh_107 : HdOK 107 none := by show mH 107 = []; decide +kernel
theorem mf_108 : MFa 108 6 9 1 := ⟨by decide +kernel, by decide +kernel, by decide +kernel, by show mT 108 = some .int; decide +kernel⟩
theorem mh_108 : HdOK 108 none := by show mH 108 = []; decide +kernel
theorem mf_109 : MFa 109 3 9 0 := ⟨by decide +kernel, by decide +kernel, by decide +kernel, by show mT 109 = none; decide +kernel⟩
theorem mh_109 : HdOK 109 none := by show mH 109 = []; decide +kernel
theorem mf_110 : MFa 110 1 9 0 := ⟨by decide +kernel, by decide +kernel, by decide +kernel, by show mT 110 = none; decide +kernel⟩
theorem mh_110 : HdOK 110 none := by show mH 110 = []; decide +kernel
theorem mf_111 : MFa 111 6 9 0 := ⟨by decide +kernel, by decide +kernel, by decide +kernel, by show mT 111 = none; decide +kernel⟩
theorem mh_111 : HdOK 111 none := by show mH 111 = []; decide +kernel
theorem mf_112 : MFa 112 6 9 0 := ⟨by decide +kernel, by decide +kernel, by decide +kernel, by show mT 112 = none; decide +kernel⟩
theorem mh_112 : HdOK 112 none := by show mH 112 = []; decide +kernel
theorem mf_113 : MFa 113 3 9 0 := ⟨by decide +kernel, by decide +kernel, by decide +kernel, by show mT 113 = none; decide +kernel⟩
theorem mh_113 : HdOK 113 none := by show mH 113 = []; decide +kernel
theorem mf_114 : MFa 114 11 9 0 := ⟨by decide +kernel, by decide +kernel, by decide +kernel, by show mT 114 = none; decide +kernel⟩
theorem mh_114 : HdOK 114 none := by show mH 114 = []; decide +kernel
theorem mf_115 : MFa 115 3 10 0 := ⟨by decide +kernel, by decide +kernel, by decide +kernel, by show mT 115 = none; decide +kernel⟩
theorem mh_115 : HdOK 115 none := by show mH 115 = []; decide +kernel
theorem mf_116 : MFa 116 2 10 0 := ⟨by decide +kernel, by decide +kernel, by decide +kernel, by show mT 116 = none; decide +kernel⟩
theorem mh_116 : HdOK 116 none := by show mH 116 = []; decide +kernel
theorem mf_117 : MFa 117 2 10 0 := ⟨by decide +kernel, by decide +kernel, by decide +kernel, by show mT 117 = none; decide +kernel⟩
theorem mh_117 : HdOK 117 none := by show mH 117 = []; decide +kernel
theorem mf_118 : MFa 118 3 10 0 := ⟨by decide +kernel, by decide +kernel, by decide +kernel, by show mT 118 = none; decide +kernel⟩
theorem mh_118 : HdOK 118 none := by show mH 118 = []; decide +kernel
theorem mf_119 : MFa 119 9 10 0 := ⟨by decide +kernel, by decide +kernel, by decide +kernel, by show mT 119 = none; decide +kernel⟩
theorem mh_119 : HdOK 119 none := by show mH 119 = []; decide +kernel
theorem mf_120 : MFa 120 6 10 1 := ⟨by decide +kernel, by decide +kernel, by decide +kernel, by show mT 120 = some .int; decide +kernel⟩
theorem mh_120 : HdOK 120 none := by show mH 120 = []; decide +kernel
theorem mf_121 : MFa 121 6 10 0 := ⟨by decide +kernel, by decide +kernel, by decide +kernel, by show mT 121 = none; decide +kernel⟩
theorem mh_121 : HdOK 121 none := by show mH 121 = []; decide +kernel
theorem mf_122 : MFa 122 16 10 1 := ⟨by decide +kernel, by decide +kernel, by decide +kernel, by show mT 122 = some .int; decide +kernel⟩
theorem mh_122 : HdOK 122 none := by show mH 122 = []; decide +kernel
theorem mf_123 : MFa 123 7 10 0 := ⟨by decide +kernel, by decide +kernel, by decide +kernel, by show mT 123 = none; decide +kernel⟩
theorem mh_123 : HdOK 123 none := by show mH 123 = []; decide +kernel
theorem mf_124 : MFa 124 4 10 1 := ⟨by decide +kernel, by decide +kernel, by decide +kernel, by show mT 124 = some .int; decide +kernel⟩
theorem mh_124 : HdOK 124 none := by show mH 124 = []; decide +kernel
theorem mf_125 : MFa 125 8 10 1 := ⟨by decide +kernel, by decide +kernel, by decide +kernel, by show mT 125 = some .int; decide +kernel⟩
theorem mh_125 : HdOK 125 none := by show mH 125 = []; decide +kernel
theorem mf_126 : MFa 126 7 10 1 := ⟨by decide +kernel, by decide +kernel, by decide +kernel, by show mT 126 = some .int; decide +kernel⟩
theorem mh_126 : HdOK 126 none := by show mH 126 = []; decide +kernel
theorem mf_127 : MFa 127 3 10 0 := ⟨by decide +kernel, by decide +kernel, by decide +kernel, by show mT 127 = none; decide +kernel⟩
theorem mh_127 : HdOK 127 none := by show mH 127 = []; decide +kernel
theorem mf_128 : MFa 128 2 10 0 := ⟨by decide +kernel, by decide +kernel, by decide +kernel, by show mT 128 = none; decide +kernel⟩
theorem mh_128 : HdOK 128 none := by show mH 128 = []; decide +kernel
theorem mf_129 : MFa 129 4 10 0 := ⟨by decide +kernel, by decide +kernel, by decide +kernel, by show mT 129 = none; decide +kernel⟩
theorem mh_129 : HdOK 129 none := by show mH 129 = []; decide +kernel
theorem mf_130 : MFa 130 2 10 0 := ⟨by decide +kernel, by decide +kernel, by decide +kernel, by show mT 130 = none; decide +kernel⟩
theorem mh_130 : HdOK 130 none := by show mH 130 = []; decide +kernel
theorem mf_131 : MFa 131 12 10 0 := ⟨by decide +kernel, by decide +kernel, by decide +kernel, by show mT 131 = none; decide +kernel⟩
theorem mh_131 : HdOK 131 none := by show mH 131 = []; decide +kernel
theorem mf_132 : MFa 132 7 10 1 := ⟨by decide +kernel, by decide +kernel, by decide +kernel, by show mT 132 = some .int; decide +kernel⟩
theorem mh_132 : HdOK 132 none := by show mH 132 = []; decide +kernel
theorem mf_133 : MFa 133 8 10 0 := ⟨by decide +kernel, by decide +kernel, by decide +kernel, by show mT 133 = none; decide +kernel⟩
theorem mh_133 : HdOK 133 none := by show mH 133 = []; decide +kernel
theorem mf_134 : MFa 134 5 10 0 := ⟨by decide +kernel, by decide +kernel, by decide +kernel, by show mT 134 = none; decide +kernel⟩
theorem mh_134 : HdOK 134 none := by show mH 134 = []; decide +kernel
theorem mf_135 : MFa 135 6 10 1 := ⟨by decide +kernel, by decide +kernel, by decide +kernel, by show mT 135 = some .int; decide +kernel⟩
theorem mh_135 : HdOK 135 none := by show mH 135 = []; decide +kernel
theorem mf_136 : MFa 136 5 10 0 := ⟨by decide +kernel, by decide +kernel, by decide +kernel, by show mT 136 = none; decide +kernel⟩
theorem mh_136 : HdOK 136 none := by show mH 136 = []; decide +kernel
theorem mf_137 : MFa 137 5 10 2 := ⟨by decide +kernel, by decide +kernel, by decide +kernel, by show mT 137 = some .boolean; decide +kernel⟩
theorem mh_137 : HdOK 137 none := by show mH 137 = []; decide +kernel
theorem mf_138 : MFa 138 12 10 1 := ⟨by decide +kernel, by decide +kernel, by decide +kernel, by show mT 138 = some .int; decide +kernel⟩
theorem mh_138 : HdOK 138 none := by show mH 138 = []; decide +kernel
theorem mf_139 : MFa 139 6 10 0 := ⟨by decide +kernel, by decide +kernel, by decide +kernel, by show mT 139 = none; decide +kernel⟩
theorem mh_139 : HdOK 139 none := by show mH 139 = []; decide +kernel
theorem mf_140 : MFa 140 2 10 0 := ⟨by decide +kernel, by decide +kernel, by decide +kernel, by show mT 140 = none; decide +kernel⟩
theorem mh_140 : HdOK 140 none := by show mH 140 = []; decide +kernel
theorem mf_141 : MFa 141 4 10 0 := ⟨by decide +kernel, by decide +kernel, by decide +kernel, by show mT 141 = none; decide +kernel⟩
theorem mh_141 : HdOK 141 none := by show mH 141 = []; decide +kernel
theorem mf_142 : MFa 142 3 10 0 := ⟨by decide +kernel, by decide +kernel, by decide +kernel, by show mT 142 = none; decide +kernel⟩
theorem mh_142 : HdOK 142 none := by show mH 142 = []; decide +kernel
theorem mf_143 : MFa 143 2 10 1 := ⟨by decide +kernel, by decide +kernel, by decide +kernel, by show mT 143 = some .int; decide +kernel⟩
theorem mh_143 : HdOK 143 none := by show mH 143 = []; decide +kernel
theorem mf_144 : MFa 144 2 10 1 := ⟨by decide +kernel, by decide +kernel, by decide +kernel, by show mT 144 = some .int; decide +kernel⟩
theorem mh_144 : HdOK 144 none := by show mH 144 = []; decide +kernel
theorem mf_145 : MFa 145 4 10 0 := ⟨by decide +kernel, by decide +kernel, by decide +kernel, by show mT 145 = none; decide +kernel⟩
theorem mh_145 : HdOK 145 none := by show mH 145 = []; decide +kernel
theorem mf_146 : MFa 146 7 11 1 := ⟨by decide +kernel, by decide +kernel, by decide +kernel, by show mT 146 = some .int; decide +kernel⟩
theorem mh_146 : HdOK 146 none := by show mH 146 = []; decide +kernel
theorem mf_147 : MFa 147 1 11 1 := ⟨by decide +kernel, by decide +kernel, by decide +kernel, by show mT 147 = some .int; decide +kernel⟩
theorem mh_147 : HdOK 147 none := by show mH 147 = []; decide +kernel
theorem mf_148 : MFa 148 1 11 1 := ⟨by decide +kernel, by decide +kernel, by decide +kernel, by show mT 148 = some .int; decide +kernel⟩
theorem mh_148 : HdOK 148 none := by show mH 148 = []; decide +kernel
theorem mf_149 : MFa 149 3 11 1 := ⟨by decide +kernel, by decide +kernel, by decide +kernel, by show mT 149 = some .int; decide +kernel⟩
theorem mh_149 : HdOK 149 none := by show mH 149 = []; decide +kernel
theorem mf_150 : MFa 150 1 11 2 := ⟨by decide +kernel, by decide +kernel, by decide +kernel, by show mT 150 = some .boolean; decide +kernel⟩
theorem mh_150 : HdOK 150 none := by show mH 150 = []; decide +kernel
theorem mf_151 : MFa 151 4 11 1 := ⟨by decide +kernel, by decide +kernel, by decide +kernel, by show mT 151 = some .int; decide +kernel⟩
theorem mh_151 : HdOK 151 none := by show mH 151 = []; decide +kernel
theorem mf_152 : MFa 152 2 11 1 := ⟨by decide +kernel, by decide +kernel, by decide +kernel, by show mT 152 = some .int; decide +kernel⟩
theorem mh_152 : HdOK 152 none := by show mH 152 = []; decide +kernel
theorem mf_153 : MFa 153 3 11 1 := ⟨by decide +kernel, by decide +kernel, by decide +kernel, by show mT 153 = some .int; decide +kernel⟩
theorem mf_154 : MFa 154 1 11 1 := ⟨by decide +kernel, by decide +kernel, by decide +kernel, by show mT 154 = some .int; decide +kernel⟩
theorem mh_154 : HdOK 154 none := by show mH 154 = []; decide +kernel
theorem mf_155 : MFa 155 2 11 1 := ⟨by decide +kernel, by decide +kernel, by decide +kernel, by show mT 155 = some .int; decide +kernel⟩
theorem mh_155 : HdOK 155 none := by show mH 155 = []; decide +kernel
theorem mf_156 : MFa 156 3 11 1 := ⟨by decide +kernel, by decide +kernel, by decide +kernel, by show mT 156 = some .int; decide +kernel⟩
theorem mh_156 : HdOK 156 none := by show mH 156 = []; decide +kernel
theorem mf_157 : MFa 157 4 11 1 := ⟨by decide +kernel, by decide +kernel, by decide +kernel, by show mT 157 = some .int; decide +kernel⟩
theorem mh_157 : HdOK 157 none := by show mH 157 = []; decide +kernel
theorem mf_158 : MFa 158 4 11 1 := ⟨by decide +kernel, by decide +kernel, by decide +kernel, by show mT 158 = some .int; decide +kernel⟩
theorem mh_158 : HdOK 158 none := by show mH 158 = []; decide +kernel
theorem mf_159 : MFa 159 3 11 1 := ⟨by decide +kernel, by decide +kernel, by decide +kernel, by show mT 159 = some .int; decide +kernel⟩
theorem mh_159 : HdOK 159 none := by show mH 159 = []; decide +kernel
theorem mf_160 : MFa 160 3 11 1 := ⟨by decide +kernel, by decide +kernel, by decide +kernel, by show mT 160 = some .int; decide +kernel⟩
theorem mh_160 : HdOK 160 none := by show mH 160 = []; decide +kernel
theorem mf_161 : MFa 161 3 11 1 := ⟨by decide +kernel, by decide +kernel, by decide +kernel, by show mT 161 = some .int; decide +kernel⟩
theorem mf_162 : MFa 162 3 11 1 := ⟨by decide +kernel, by decide +kernel, by decide +kernel, by show mT 162 = some .int; decide +kernel⟩
theorem mh_162 : HdOK 162 none := by show mH 162 = []; decide +kernel
theorem mf_163 : MFa 163 2 11 1 := ⟨by decide +kernel, by decide +kernel, by decide +kernel, by show mT 163 = some .int; decide +kernel⟩
theorem mh_163 : HdOK 163 none := by show mH 163 = []; decide +kernel
theorem mf_164 : MFa 164 1 11 1 := ⟨by decide +kernel, by decide +kernel, by decide +kernel, by show mT 164 = some .int; decide +kernel⟩
theorem mh_164 : HdOK 164 none := by show mH 164 = []; decide +kernel
theorem mf_165 : MFa 165 2 11 1 := ⟨by decide +kernel, by decide +kernel, by decide +kernel, by show mT 165 = some .int; decide +kernel⟩
theorem mh_165 : HdOK 165 none := by show mH 165 = []; decide +kernel
theorem mf_166 : MFa 166 2 11 1 := ⟨by decide +kernel, by decide +kernel, by decide +kernel, by show mT 166 = some .int; decide +kernel⟩
theorem mh_166 : HdOK 166 none := by show mH 166 = []; decide +kernel
theorem mf_167 : MFa 167 5 11 0 := ⟨by decide +kernel, by decide +kernel, by decide +kernel, by show mT 167 = none; decide +kernel⟩
theorem mh_167 : HdOK 167 none := by show mH 167 = []; decide +kernel
theorem mf_168 : MFa 168 3 11 1 := ⟨by decide +kernel, by decide +kernel, by decide +kernel, by show mT 168 = some .int; decide +kernel⟩
theorem mh_168 : HdOK 168 none := by show mH 168 = []; decide +kernel
theorem mf_169 : MFa 169 1 11 0 := ⟨by decide +kernel, by decide +kernel, by decide +kernel, by show mT 169 = none; decide +kernel⟩
theorem mh_169 : HdOK 169 none := by show mH 169 = []; decide +kernel
theorem mf_170 : MFa 170 6 11 1 := ⟨by decide +kernel, by decide +kernel, by decide +kernel, by show mT 170 = some .int; decide +kernel⟩
theorem mh_170 : HdOK 170 none := by show mH 170 = []; decide +kernel
theorem mf_171 : MFa 171 7 11 2 := ⟨by decide +kernel, by decide +kernel, by decide +kernel, by show mT 171 = some .boolean; decide +kernel⟩
theorem mh_171 : HdOK 171 none := by show mH 171 = []; decide +kernel
theorem mf_172 : MFa 172 10 11 0 := ⟨by decide +kernel, by decide +kernel, by decide +kernel, by show mT 172 = none; decide +kernel⟩
theorem mh_172 : HdOK 172 none := by show mH 172 = []; decide +kernel
theorem mf_173 : MFa 173 1 11 0 := ⟨by decide +kernel, by decide +kernel, by decide +kernel, by show mT 173 = none; decide +kernel⟩
theorem mh_173 : HdOK 173 none := by show mH 173 = []; decide +kernel
theorem mf_174 : MFa 174 1 11 0 := ⟨by decide +kernel, by decide +kernel, by decide +kernel, by show mT 174 = none; decide +kernel⟩
theorem mh_174 : HdOK 174 none := by show mH 174 = []; decide +kernel
theorem mf_175 : MFa 175 2 11 0 := ⟨by decide +kernel, by decide +kernel, by decide +kernel, by show mT 175 = none; decide +kernel⟩
theorem mh_175 : HdOK 175 none := by show mH 175 = []; decide +kernel
theorem mf_176 : MFa 176 3 11 1 := ⟨by decide +kernel, by decide +kernel, by decide +kernel, by show mT 176 = some .int; decide +kernel⟩
theorem mh_176 : HdOK 176 none := by show mH 176 = []; decide +kernel
theorem mf_177 : MFa 177 5 11 1 := ⟨by decide +kernel, by decide +kernel, by decide +kernel, by show mT 177 = some .int; decide +kernel⟩
theorem mh_177 : HdOK 177 none := by show mH 177 = []; decide +kernel
theorem mf_178 : MFa 178 1 11 2 := ⟨by decide +kernel, by decide +kernel, by decide +kernel, by show mT 178 = some .boolean; decide +kernel⟩
theorem mh_178 : HdOK 178 none := by show mH 178 = []; decide +kernel
theorem mf_179 : MFa 179 1 11 2 := ⟨by decide +kernel, by decide +kernel, by decide +kernel, by show mT 179 = some .boolean; decide +kernel⟩
theorem mh_179 : HdOK 179 none := by show mH 179 = []; decide +kernel
theorem mf_180 : MFa 180 1 11 2 := ⟨by decide +kernel, by decide +kernel, by decide +kernel, by show mT 180 = some .boolean; decide +kernel⟩
theorem mh_180 : HdOK 180 none := by show mH 180 = []; decide +kernel
theorem mf_181 : MFa 181 1 11 2 := ⟨by decide +kernel, by decide +kernel, by decide +kernel, by show mT 181 = some .boolean; decide +kernel⟩
theorem mh_181 : HdOK 181 none := by show mH 181 = []; decide +kernel
theorem mf_182 : MFa 182 1 11 2 := ⟨by decide +kernel, by decide +kernel, by decide +kernel, by show mT 182 = some .boolean; decide +kernel⟩
theorem mh_182 : HdOK 182 none := by show mH 182 = []; decide +kernel
theorem mf_183 : MFa 183 1 11 1 := ⟨by decide +kernel, by decide +kernel, by decide +kernel, by show mT 183 = some .int; decide +kernel⟩
theorem mh_183 : HdOK 183 none := by show mH 183 = []; decide +kernel
theorem mf_184 : MFa 184 1 11 1 := ⟨by decide +kernel, by decide +kernel, by decide +kernel, by show mT 184 = some .int; decide +kernel⟩
theorem mh_184 : HdOK 184 none := by show mH 184 = []; decide +kernel
theorem mf_185 : MFa 185 1 12 1 := ⟨by decide +kernel, by decide +kernel, by decide +kernel, by show mT 185 = some .int; decide +kernel⟩
theorem mh_185 : HdOK 185 none := by show mH 185 = []; decide +kernel
theorem mf_186 : MFa 186 1 12 0 := ⟨by decide +kernel, by decide +kernel, by decide +kernel, by show mT 186 = none; decide +kernel⟩
theorem mh_186 : HdOK 186 none := by show mH 186 = []; decide +kernel
theorem mf_187 : MFa 187 1 12 1 := ⟨by decide +kernel, by decide +kernel, by decide +kernel, by show mT 187 = some .int; decide +kernel⟩
theorem mh_187 : HdOK 187 none := by show mH 187 = []; decide +kernel
theorem mf_188 : MFa 188 1 12 1 := ⟨by decide +kernel, by decide +kernel, by decide +kernel, by show mT 188 = some .int; decide +kernel⟩
theorem mh_188 : HdOK 188 none := by show mH 188 = []; decide +kernel
theorem mf_189 : MFa 189 1 12 2 := ⟨by decide +kernel, by decide +kernel, by decide +kernel, by show mT 189 = some .boolean; decide +kernel⟩
theorem mh_189 : HdOK 189 none := by show mH 189 = []; decide +kernel
theorem mf_190 : MFa 190 1 12 2 := ⟨by decide +kernel, by decide +kernel, by decide +kernel, by show mT 190 = some .boolean; decide +kernel⟩
theorem mh_190 : HdOK 190 none := by show mH 190 = []; decide +kernel
theorem mf_191 : MFa 191 1 12 2 := ⟨by decide +kernel, by decide +kernel, by decide +kernel, by show mT 191 = some .boolean; decide +kernel⟩
theorem mh_191 : HdOK 191 none := by show mH 191 = []; decide +kernel
theorem mf_192 : MFa 192 1 12 2 := ⟨by decide +kernel, by decide +kernel, by decide +kernel, by show mT 192 = some .boolean; decide +kernel⟩
theorem mh_192 : HdOK 192 none := by show mH 192 = []; decide +kernel
theorem mf_193 : MFa 193 1 12 1 := ⟨by decide +kernel, by decide +kernel, by decide +kernel, by show mT 193 = some .int; decide +kernel⟩
theorem mh_193 : HdOK 193 none := by show mH 193 = []; decide +kernel
theorem mf_194 : MFa 194 1 12 1 := ⟨by decide +kernel, by decide +kernel, by decide +kernel, by show mT 194 = some .int; decide +kernel⟩
theorem mh_194 : HdOK 194 none := by show mH 194 = []; decide +kernel
theorem mf_195 : MFa 195 1 12 1 := ⟨by decide +kernel, by decide +kernel, by decide +kernel, by show mT 195 = some .int; decide +kernel⟩
theorem mh_195 : HdOK 195 none := by show mH 195 = []; decide +kernel
theorem mf_196 : MFa 196 2 12 1 := ⟨by decide +kernel, by decide +kernel, by decide +kernel, by show mT 196 = some .int; decide +kernel⟩
theorem mh_196 : HdOK 196 none := by show mH 196 = []; decide +kernel
theorem mf_197 : MFa 197 2 12 1 := ⟨by decide +kernel, by decide +kernel, by decide +kernel, by show mT 197 = some .int; decide +kernel⟩
theorem mh_197 : HdOK 197 none := by show mH 197 = []; decide +kernel
theorem mf_198 : MFa 198 2 12 0 := ⟨by decide +kernel, by decide +kernel, by decide +kernel, by show mT 198 = none; decide +kernel⟩
theorem mh_198 : HdOK 198 none := by show mH 198 = []; decide +kernel
theorem mf_199 : MFa 199 2 12 2 := ⟨by decide +kernel, by decide +kernel, by decide +kernel, by show mT 199 = some .boolean; decide +kernel⟩
theorem mh_199 : HdOK 199 none := by show mH 199 = []; decide +kernel
theorem mf_200 : MFa 200 1 12 2 := ⟨by decide +kernel, by decide +kernel, by decide +kernel, by show mT 200 = some .boolean; decide +kernel⟩
theorem mh_200 : HdOK 200 none := by show mH 200 = []; decide +kernel
theorem mf_201 : MFa 201 3 12 0 := ⟨by decide +kernel, by decide +kernel, by decide +kernel, by show mT 201 = none; decide +kernel⟩
theorem mh_201 : HdOK 201 none := by show mH 201 = []; decide +kernel
theorem mf_202 : MFa 202 2 12 0 := ⟨by decide +kernel, by decide +kernel, by decide +kernel, by show mT 202 = none; decide +kernel⟩
theorem mh_202 : HdOK 202 none := by show mH 202 = []; decide +kernel
theorem mf_203 : MFa 203 9 12 1 := ⟨by decide +kernel, by decide +kernel, by decide +kernel, by show mT 203 = some .int; decide +kernel⟩
theorem mh_203 : HdOK 203 none := by show mH 203 = []; decide +kernel
theorem mf_204 : MFa 204 6 12 1 := ⟨by decide +kernel, by decide +kernel, by decide +kernel, by show mT 204 = some .int; decide +kernel⟩
theorem mh_204 : HdOK 204 none := by show mH 204 = []; decide +kernel
theorem mf_205 : MFa 205 1 12 1 := ⟨by decide +kernel, by decide +kernel, by decide +kernel, by show mT 205 = some .int; decide +kernel⟩
theorem mh_205 : HdOK 205 none := by show mH 205 = []; decide +kernel
theorem mf_206 : MFa 206 6 12 1 := ⟨by decide +kernel, by decide +kernel, by decide +kernel, by show mT 206 = some .int; decide +kernel⟩
theorem mh_206 : HdOK 206 none := by show mH 206 = []; decide +kernel
theorem mf_207 : MFa 207 7 12 0 := ⟨by decide +kernel, by decide +kernel, by decide +kernel, by show mT 207 = none; decide +kernel⟩
theorem mh_207 : HdOK 207 none := by show mH 207 = []; decide +kernel
theorem mf_208 : MFa 208 5 12 0 := ⟨by decide +kernel, by decide +kernel, by decide +kernel, by show mT 208 = none; decide +kernel⟩
theorem mh_208 : HdOK 208 none := by show mH 208 = []; decide +kernel
theorem mf_209 : MFa 209 5 12 1 := ⟨by decide +kernel, by decide +kernel, by decide +kernel, by show mT 209 = some .int; decide +kernel⟩
theorem mh_209 : HdOK 209 none := by show mH 209 = []; decide +kernel
theorem mf_210 : MFa 210 7 12 0 := ⟨by decide +kernel, by decide +kernel, by decide +kernel, by show mT 210 = none; decide +kernel⟩
theorem mh_210 : HdOK 210 none := by show mH 210 = []; decide +kernel
theorem mf_211 : MFa 211 12 12 1 := ⟨by decide +kernel, by decide +kernel, by decide +kernel, by show mT 211 = some .int; decide +kernel⟩
theorem mh_211 : HdOK 211 none := by show mH 211 = []; decide +kernel
theorem mf_212 : MFa 212 8 12 0 := ⟨by decide +kernel, by decide +kernel, by decide +kernel, by show mT 212 = none; decide +kernel⟩
theorem mh_212 : HdOK 212 none := by show mH 212 = []; decide +kernel
theorem mf_213 : MFa 213 4 12 0 := ⟨by decide +kernel, by decide +kernel, by decide +kernel, by show mT 213 = none; decide +kernel⟩
theorem mh_213 : HdOK 213 none := by show mH 213 = []; decide +kernel
theorem mf_214 : MFa 214 2 12 1 := ⟨by decide +kernel, by decide +kernel, by decide +kernel, by show mT 214 = some .int; decide +kernel⟩
theorem mh_214 : HdOK 214 none := by show mH 214 = []; decide +kernel
theorem mf_215 : MFa 215 9 12 2 := ⟨by decide +kernel, by decide +kernel, by decide +kernel, by show mT 215 = some .boolean; decide +kernel⟩
theorem mh_215 : HdOK 215 none := by show mH 215 = []; decide +kernel
theorem mf_216 : MFa 216 5 12 2 := ⟨by decide +kernel, by decide +kernel, by decide +kernel, by show mT 216 = some .boolean; decide +kernel⟩
theorem mh_216 : HdOK 216 none := by show mH 216 = []; decide +kernel
theorem mf_217 : MFa 217 8 12 0 := ⟨by decide +kernel, by decide +kernel, by decide +kernel, by show mT 217 = none; decide +kernel⟩
theorem mh_217 : HdOK 217 none := by show mH 217 = []; decide +kernel
theorem mf_218 : MFa 218 4 12 0 := ⟨by decide +kernel, by decide +kernel, by decide +kernel, by show mT 218 = none; decide +kernel⟩
theorem mh_218 : HdOK 218 none := by show mH 218 = []; decide +kernel
theorem mf_219 : MFa 219 6 12 0 := ⟨by decide +kernel, by decide +kernel, by decide +kernel, by show mT 219 = none; decide +kernel⟩
theorem mh_219 : HdOK 219 none := by show mH 219 = []; decide +kernel
theorem mf_220 : MFa 220 6 12 0 := ⟨by decide +kernel, by decide +kernel, by decide +kernel, by show mT 220 = none; decide +kernel⟩
theorem mh_220 : HdOK 220 none := by show mH 220 = []; decide +kernel
theorem mf_221 : MFa 221 6 12 0 := ⟨by decide +kernel, by decide +kernel, by decide +kernel, by show mT 221 = none; decide +kernel⟩
theorem mh_221 : HdOK 221 none := by show mH 221 = []; decide +kernel
theorem mf_222 : MFa 222 6 12 0 := ⟨by decide +kernel, by decide +kernel, by decide +kernel, by show mT 222 = none; decide +kernel⟩
theorem mh_222 : HdOK 222 none := by show mH 222 = []; decide +kernel
theorem mf_223 : MFa 223 7 12 1 := ⟨by decide +kernel, by decide +kernel, by decide +kernel, by show mT 223 = some .int; decide +kernel⟩
theorem mh_223 : HdOK 223 none := by show mH 223 = []; decide +kernel
theorem mf_224 : MFa 224 6 12 2 := ⟨by decide +kernel, by decide +kernel, by decide +kernel, by show mT 224 = some .boolean; decide +kernel⟩
theorem mh_224 : HdOK 224 none := by show mH 224 = []; decide +kernel
theorem mf_225 : MFa 225 4 12 0 := ⟨by decide +kernel, by decide +kernel, by decide +kernel, by show mT 225 = none; decide +kernel⟩
theorem mh_225 : HdOK 225 none := by show mH 225 = []; decide +kernel
theorem mf_226 : MFa 226 2 12 0 := ⟨by decide +kernel, by decide +kernel, by decide +kernel, by show mT 226 = none; decide +kernel⟩
theorem mh_226 : HdOK 226 none := by show mH 226 = []; decide +kernel
theorem mf_227 : MFa 227 9 12 0 := ⟨by decide +kernel, by decide +kernel, by decide +kernel, by show mT 227 = none; decide +kernel⟩
theorem mh_227 : HdOK 227 none := by show mH 227 = []; decide +kernel
theorem mf_228 : MFa 228 5 12 0 := ⟨by decide +kernel, by decide +kernel, by decide +kernel, by show mT 228 = none; decide +kernel⟩
theorem mh_228 : HdOK 228 none := by show mH 228 = []; decide +kernel
theorem mf_229 : MFa 229 7 12 0 := ⟨by decide +kernel, by decide +kernel, by decide +kernel, by show mT 229 = none; decide +kernel⟩
theorem mh_229 : HdOK 229 none := by show mH 229 = []; decide +kernel
theorem mf_230 : MFa 230 9 12 0 := ⟨by decide +kernel, by decide +kernel, by decide +kernel, by show mT 230 = none; decide +kernel⟩
theorem mh_230 : HdOK 230 none := by show mH 230 = []; decide +kernel
theorem mf_231 : MFa 231 2 12 1 := ⟨by decide +kernel, by decide +kernel, by decide +kernel, by show mT 231 = some .int; decide +kernel⟩
theorem mh_231 : HdOK 231 none := by show mH 231 = []; decide +kernel
theorem mf_232 : MFa 232 4 12 0 := ⟨by decide +kernel, by decide +kernel, by decide +kernel, by show mT 232 = none; decide +kernel⟩
theorem mh_232 : HdOK 232 none := by show mH 232 = []; decide +kernel
theorem mf_233 : MFa 233 4 12 0 := ⟨by decide +kernel, by decide +kernel, by decide +kernel, by show mT 233 = none; decide +kernel⟩
theorem mh_233 : HdOK 233 none := by show mH 233 = []; decide +kernel
theorem mf_234 : MFa 234 8 12 1 := ⟨by decide +kernel, by decide +kernel, by decide +kernel, by show mT 234 = some .int; decide +kernel⟩
theorem mh_234 : HdOK 234 none := by show mH 234 = []; decide +kernel
theorem mf_235 : MFa 235 5 12 0 := ⟨by decide +kernel, by decide +kernel, by decide +kernel, by show mT 235 = none; decide +kernel⟩
theorem mh_235 : HdOK 235 none := by show mH 235 = []; decide +kernel
theorem mf_236 : MFa 236 6 12 0 := ⟨by decide +kernel, by decide +kernel, by decide +kernel, by show mT 236 = none; decide +kernel⟩
theorem mh_236 : HdOK 236 none := by show mH 236 = []; decide +kernel
theorem mf_237 : MFa 237 6 12 0 := ⟨by decide +kernel, by decide +kernel, by decide +kernel, by show mT 237 = none; decide +kernel⟩
theorem mh_237 : HdOK 237 none := by show mH 237 = []; decide +kernel
theorem mf_238 : MFa 238 5 12 0 := ⟨by decide +kernel, by decide +kernel, by decide +kernel, by show mT 238 = none; decide +kernel⟩
theorem mh_238 : HdOK 238 none := by show mH 238 = []; decide +kernel
theorem mf_239 : MFa 239 4 12 2 := ⟨by decide +kernel, by decide +kernel, by decide +kernel, by show mT 239 = some .boolean; decide +kernel⟩
theorem mh_239 : HdOK 239 none := by show mH 239 = []; decide +kernel
theorem mf_240 : MFa 240 1 12 2 := ⟨by decide +kernel, by decide +kernel, by decide +kernel, by show mT 240 = some .boolean; decide +kernel⟩
theorem mh_240 : HdOK 240 none := by show mH 240 = []; decide +kernel
theorem mf_241 : MFa 241 7 12 2 := ⟨by decide +kernel, by decide +kernel, by decide +kernel, by show mT 241 = some .boolean; decide +kernel⟩
theorem mh_241 : HdOK 241 none := by show mH 241 = []; decide +kernel
theorem mf_242 : MFa 242 9 12 2 := ⟨by decide +kernel, by decide +kernel, by decide +kernel, by show mT 242 = some .boolean; decide +kernel⟩
theorem mh_242 : HdOK 242 none := by show mH 242 = []; decide +kernel
theorem mf_243 : MFa 243 6 12 2 := ⟨by decide +kernel, by decide +kernel, by decide +kernel, by show mT 243 = some .boolean; decide +kernel⟩
theorem mh_243 : HdOK 243 none := by show mH 243 = []; decide +kernel
theorem mf_244 : MFa 244 4 12 2 := ⟨by decide +kernel, by decide +kernel, by decide +kernel, by show mT 244 = some .boolean; decide +kernel⟩
theorem mh_244 : HdOK 244 none := by show mH 244 = []; decide +kernel
theorem mf_245 : MFa 245 8 12 2 := ⟨by decide +kernel, by decide +kernel, by decide +kernel, by show mT 245 = some .boolean; decide +kernel⟩
theorem mh_245 : HdOK 245 none := by show mH 245 = []; decide +kernel
theorem mf_246 : MFa 246 5 12 0 := ⟨by decide +kernel, by decide +kernel, by decide +kernel, by show mT 246 = none; decide +kernel⟩
theorem mh_246 : HdOK 246 none := by show mH 246 = []; decide +kernel
theorem mf_247 : MFa 247 5 12 0 := ⟨by decide +kernel, by decide +kernel, by decide +kernel, by show mT 247 = none; decide +kernel⟩
theorem mh_247 : HdOK 247 none := by show mH 247 = []; decide +kernel
theorem mf_248 : MFa 248 12 12 0 := ⟨by decide +kernel, by decide +kernel, by decide +kernel, by show mT 248 = none; decide +kernel⟩
theorem mh_248 : HdOK 248 none := by show mH 248 = []; decide +kernel
theorem mf_249 : MFa 249 8 12 0 := ⟨by decide +kernel, by decide +kernel, by decide +kernel, by show mT 249 = none; decide +kernel⟩
theorem mh_249 : HdOK 249 none := by show mH 249 = []; decide +kernel
theorem mf_250 : MFa 250 4 12 1 := ⟨by decide +kernel, by decide +kernel, by decide +kernel, by show mT 250 = some .int; decide +kernel⟩
theorem mh_250 : HdOK 250 none := by show mH 250 = []; decide +kernel
theorem mf_251 : MFa 251 4 12 1 := ⟨by decide +kernel, by decide +kernel, by decide +kernel, by show mT 251 = some .int; decide +kernel⟩
theorem mh_251 : HdOK 251 none := by show mH 251 = []; decide +kernel
theorem mf_252 : MFa 252 9 12 0 := ⟨by decide +kernel, by decide +kernel, by decide +kernel, by show mT 252 = none; decide +kernel⟩
theorem mh_252 : HdOK 252 none := by show mH 252 = []; decide +kernel
theorem mf_253 : MFa 253 3 12 0 := ⟨by decide +kernel, by decide +kernel, by decide +kernel, by show mT 253 = none; decide +kernel⟩
theorem mh_253 : HdOK 253 none := by show mH 253 = []; decide +kernel
theorem mf_254 : MFa 254 3 12 0 := ⟨by decide +kernel, by decide +kernel, by decide +kernel, by show mT 254 = none; decide +kernel⟩
theorem mh_254 : HdOK 254 none := by show mH 254 = []; decide +kernel
theorem mf_255 : MFa 255 5 12 2 := ⟨by decide +kernel, by decide +kernel, by decide +kernel, by show mT 255 = some .boolean; decide +kernel⟩
theorem mh_255 : HdOK 255 none := by show mH 255 = []; decide +kernel
theorem mf_256 : MFa 256 5 12 1 := ⟨by decide +kernel, by decide +kernel, by decide +kernel, by show mT 256 = some .int; decide +kernel⟩
theorem mh_256 : HdOK 256 none := by show mH 256 = []; decide +kernel
theorem mf_257 : MFa 257 5 12 1 := ⟨by decide +kernel, by decide +kernel, by decide +kernel, by show mT 257 = some .int; decide +kernel⟩
theorem mh_257 : HdOK 257 none := by show mH 257 = []; decide +kernel
theorem mf_258 : MFa 258 11 12 0 := ⟨by decide +kernel, by decide +kernel, by decide +kernel, by show mT 258 = none; decide +kernel⟩
theorem mh_258 : HdOK 258 none := by show mH 258 = []; decide +kernel
theorem mf_259 : MFa 259 17 12 1 := ⟨by decide +kernel, by decide +kernel, by decide +kernel, by show mT 259 = some .int; decide +kernel⟩
theorem mh_259 : HdOK 259 none := by show mH 259 = []; decide +kernel
theorem mf_260 : MFa 260 13 12 0 := ⟨by decide +kernel, by decide +kernel, by decide +kernel, by show mT 260 = none; decide +kernel⟩
theorem mh_260 : HdOK 260 none := by show mH 260 = []; decide +kernel
theorem mf_261 : MFa 261 8 12 2 := ⟨by decide +kernel, by decide +kernel, by decide +kernel, by show mT 261 = some .boolean; decide +kernel⟩
theorem mh_261 : HdOK 261 none := by show mH 261 = []; decide +kernel
theorem mf_262 : MFa 262 13 12 2 := ⟨by decide +kernel, by decide +kernel, by decide +kernel, by show mT 262 = some .boolean; decide +kernel⟩
theorem mh_262 : HdOK 262 none := by show mH 262 = []; decide +kernel
theorem mf_263 : MFa 263 6 12 0 := ⟨by decide +kernel, by decide +kernel, by decide +kernel, by show mT 263 = none; decide +kernel⟩
theorem mh_263 : HdOK 263 none := by show mH 263 = []; decide +kernel
theorem mf_264 : MFa 264 8 12 0 := ⟨by decide +kernel, by decide +kernel, by decide +kernel, by show mT 264 = none; decide +kernel⟩
theorem mh_264 : HdOK 264 none := by show mH 264 = []; decide +kernel
theorem mf_265 : MFa 265 6 12 0 := ⟨by decide +kernel, by decide +kernel, by decide +kernel, by show mT 265 = none; decide +kernel⟩
theorem mh_265 : HdOK 265 none := by show mH 265 = []; decide +kernel
theorem mf_266 : MFa 266 2 12 0 := ⟨by decide +kernel, by decide +kernel, by decide +kernel, by show mT 266 = none; decide +kernel⟩
theorem mh_266 : HdOK 266 none := by show mH 266 = []; decide +kernel
theorem mf_267 : MFa 267 9 12 0 := ⟨by decide +kernel, by decide +kernel, by decide +kernel, by show mT 267 = none; decide +kernel⟩
theorem mh_267 : HdOK 267 none := by show mH 267 = []; decide +kernel
theorem mf_268 : MFa 268 11 12 0 := ⟨by decide +kernel, by decide +kernel, by decide +kernel, by show mT 268 = none; decide +kernel⟩
theorem mh_268 : HdOK 268 none := by show mH 268 = []; decide +kernel
theorem mf_269 : MFa 269 3 12 0 := ⟨by decide +kernel, by decide +kernel, by decide +kernel, by show mT 269 = none; decide +kernel⟩
theorem mh_269 : HdOK 269 none := by show mH 269 = []; decide +kernel
theorem mf_270 : MFa 270 8 12 0 := ⟨by decide +kernel, by decide +kernel, by decide +kernel, by show mT 270 = none; decide +kernel⟩
theorem mh_270 : HdOK 270 none := by show mH 270 = []; decide +kernel
theorem mf_271 : MFa 271 8 12 0 := ⟨by decide +kernel, by decide +kernel, by decide +kernel, by show mT 271 = none; decide +kernel⟩
theorem mh_271 : HdOK 271 none := by show mH 271 = []; decide +kernel
theorem mf_272 : MFa 272 5 12 2 := ⟨by decide +kernel, by decide +kernel, by decide +kernel, by show mT 272 = some .boolean; decide +kernel⟩
theorem mh_272 : HdOK 272 none := by show mH 272 = []; decide +kernel
theorem mf_273 : MFa 273 9 12 1 := ⟨by decide +kernel, by decide +kernel, by decide +kernel, by show mT 273 = some .int; decide +kernel⟩
theorem mh_273 : HdOK 273 none := by show mH 273 = []; decide +kernel
theorem mf_274 : MFa 274 5 12 1 := ⟨by decide +kernel, by decide +kernel, by decide +kernel, by show mT 274 = some .int; decide +kernel⟩
theorem mh_274 : HdOK 274 none := by show mH 274 = []; decide +kernel
theorem mf_275 : MFa 275 7 12 2 := ⟨by decide +kernel, by decide +kernel, by decide +kernel, by show mT 275 = some .boolean; decide +kernel⟩
theorem mh_275 : HdOK 275 none := by show mH 275 = []; decide +kernel
theorem mf_276 : MFa 276 13 12 0 := ⟨by decide +kernel, by decide +kernel, by decide +kernel, by show mT 276 = none; decide +kernel⟩
theorem mh_276 : HdOK 276 none := by show mH 276 = []; decide +kernel
theorem mf_277 : MFa 277 5 12 0 := ⟨by decide +kernel, by decide +kernel, by decide +kernel, by show mT 277 = none; decide +kernel⟩
theorem mh_277 : HdOK 277 none := by show mH 277 = []; decide +kernel
theorem mf_278 : MFa 278 5 12 0 := ⟨by decide +kernel, by decide +kernel, by decide +kernel, by show mT 278 = none; decide +kernel⟩
theorem mh_278 : HdOK 278 none := by show mH 278 = []; decide +kernel
theorem mf_279 : MFa 279 11 12 0 := ⟨by decide +kernel, by decide +kernel, by decide +kernel, by show mT 279 = none; decide +kernel⟩
theorem mh_279 : HdOK 279 none := by show mH 279 = []; decide +kernel
theorem mf_280 : MFa 280 4 12 0 := ⟨by decide +kernel, by decide +kernel, by decide +kernel, by show mT 280 = none; decide +kernel⟩
theorem mh_280 : HdOK 280 none := by show mH 280 = []; decide +kernel
theorem mf_281 : MFa 281 8 12 2 := ⟨by decide +kernel, by decide +kernel, by decide +kernel, by show mT 281 = some .boolean; decide +kernel⟩
theorem mh_281 : HdOK 281 none := by show mH 281 = []; decide +kernel
theorem mf_282 : MFa 282 6 12 1 := ⟨by decide +kernel, by decide +kernel, by decide +kernel, by show mT 282 = some .int; decide +kernel⟩
theorem mh_282 : HdOK 282 none := by show mH 282 = []; decide +kernel
theorem mf_283 : MFa 283 5 12 1 := ⟨by decide +kernel, by decide +kernel, by decide +kernel, by show mT 283 = some .int; decide +kernel⟩
theorem mh_283 : HdOK 283 none := by show mH 283 = []; decide +kernel
theorem mf_284 : MFa 284 6 12 2 := ⟨by decide +kernel, by decide +kernel, by decide +kernel, by show mT 284 = some .boolean; decide +kernel⟩
theorem mh_284 : HdOK 284 none := by show mH 284 = []; decide +kernel
theorem mf_285 : MFa 285 2 12 0 := ⟨by decide +kernel, by decide +kernel, by decide +kernel, by show mT 285 = none; decide +kernel⟩
theorem mh_285 : HdOK 285 none := by show mH 285 = []; decide +kernel
theorem mf_286 : MFa 286 3 12 0 := ⟨by decide +kernel, by decide +kernel, by decide +kernel, by show mT 286 = none; decide +kernel⟩
theorem mh_286 : HdOK 286 none := by show mH 286 = []; decide +kernel
theorem mf_287 : MFa 287 6 12 2 := ⟨by decide +kernel, by decide +kernel, by decide +kernel, by show mT 287 = some .boolean; decide +kernel⟩
theorem mh_287 : HdOK 287 none := by show mH 287 = []; decide +kernel
theorem mf_288 : MFa 288 3 12 1 := ⟨by decide +kernel, by decide +kernel, by decide +kernel, by show mT 288 = some .int; decide +kernel⟩
theorem mh_288 : HdOK 288 none := by show mH 288 = []; decide +kernel
theorem mf_289 : MFa 289 2 12 0 := ⟨by decide +kernel, by decide +kernel, by decide +kernel, by show mT 289 = none; decide +kernel⟩
theorem mh_289 : HdOK 289 none := by show mH 289 = []; decide +kernel
theorem mf_290 : MFa 290 6 12 1 := ⟨by decide +kernel, by decide +kernel, by decide +kernel, by show mT 290 = some .int; decide +kernel⟩
theorem mh_290 : HdOK 290 none := by show mH 290 = []; decide +kernel
theorem mf_291 : MFa 291 5 12 0 := ⟨by decide +kernel, by decide +kernel, by decide +kernel, by show mT 291 = none; decide +kernel⟩
theorem mh_291 : HdOK 291 none := by show mH 291 = []; decide +kernel
theorem mf_292 : MFa 292 8 12 0 := ⟨by decide +kernel, by decide +kernel, by decide +kernel, by show mT 292 = none; decide +kernel⟩
theorem mh_292 : HdOK 292 none := by show mH 292 = []; decide +kernel
theorem mf_293 : MFa 293 10 12 0 := ⟨by decide +kernel, by decide +kernel, by decide +kernel, by show mT 293 = none; decide +kernel⟩
theorem mh_293 : HdOK 293 none := by show mH 293 = []; decide +kernel
theorem mf_294 : MFa 294 4 12 1 := ⟨by decide +kernel, by decide +kernel, by decide +kernel, by show mT 294 = some .int; decide +kernel⟩
theorem mh_294 : HdOK 294 none := by show mH 294 = []; decide +kernel
theorem mf_295 : MFa 295 3 12 0 := ⟨by decide +kernel, by decide +kernel, by decide +kernel, by show mT 295 = none; decide +kernel⟩
theorem mh_295 : HdOK 295 none := by show mH 295 = []; decide +kernel
theorem mf_296 : MFa 296 3 12 0 := ⟨by decide +kernel, by decide +kernel, by decide +kernel, by show mT 296 = none; decide +kernel⟩
theorem mh_296 : HdOK 296 none := by show mH 296 = []; decide +kernel
theorem mf_297 : MFa 297 3 12 0 := ⟨by decide +kernel, by decide +kernel, by decide +kernel, by show mT 297 = none; decide +kernel⟩
theorem mh_297 : HdOK 297 none := by show mH 297 = []; decide +kernel
theorem mf_298 : MFa 298 11 12 0 := ⟨by decide +kernel, by decide +kernel, by decide +kernel, by show mT 298 = none; decide +kernel⟩
theorem mh_298 : HdOK 298 none := by show mH 298 = []; decide +kernel
theorem mf_299 : MFa 299 6 12 0 := ⟨by decide +kernel, by decide +kernel, by decide +kernel, by show mT 299 = none; decide +kernel⟩
theorem mh_299 : HdOK 299 none := by show mH 299 = []; decide +kernel
theorem mf_300 : MFa 300 5 12 2 := ⟨by decide +kernel, by decide +kernel, by decide +kernel, by show mT 300 = some .boolean; decide +kernel⟩
theorem mh_300 : HdOK 300 none := by show mH 300 = []; decide +kernel
theorem mf_301 : MFa 301 7 12 2 := ⟨by decide +kernel, by decide +kernel, by decide +kernel, by show mT 301 = some .boolean; decide +kernel⟩
theorem mh_301 : HdOK 301 none := by show mH 301 = []; decide +kernel
theorem mf_302 : MFa 302 2 12 1 := ⟨by decide +kernel, by decide +kernel, by decide +kernel, by show mT 302 = some .int; decide +kernel⟩
theorem mh_302 : HdOK 302 none := by show mH 302 = []; decide +kernel
theorem mf_303 : MFa 303 11 12 1 := ⟨by decide +kernel, by decide +kernel, by decide +kernel, by show mT 303 = some .int; decide +kernel⟩
theorem mh_303 : HdOK 303 none := by show mH 303 = []; decide +kernel
theorem mf_304 : MFa 304 3 12 1 := ⟨by decide +kernel, by decide +kernel, by decide +kernel, by show mT 304 = some .int; decide +kernel⟩
theorem mh_304 : HdOK 304 none := by show mH 304 = []; decide +kernel
theorem mf_305 : MFa 305 2 12 0 := ⟨by decide +kernel, by decide +kernel, by decide +kernel, by show mT 305 = none; decide +kernel⟩
theorem mh_305 : HdOK 305 none := by show mH 305 = []; decide +kernel
theorem mf_306 : MFa 306 2 12 1 := ⟨by decide +kernel, by decide +kernel, by decide +kernel, by show mT 306 = some .int; decide +kernel⟩
theorem mh_306 : HdOK 306 none := by show mH 306 = []; decide +kernel
theorem mf_307 : MFa 307 2 12 2 := ⟨by decide +kernel, by decide +kernel, by decide +kernel, by show mT 307 = some .boolean; decide +kernel⟩
theorem mh_307 : HdOK 307 none := by show mH 307 = []; decide +kernel
theorem mf_308 : MFa 308 3 12 1 := ⟨by decide +kernel, by decide +kernel, by decide +kernel, by show mT 308 = some .int; decide +kernel⟩
theorem mh_308 : HdOK 308 none := by show mH 308 = []; decide +kernel
theorem mf_309 : MFa 309 2 12 2 := ⟨by decide +kernel, by decide +kernel, by decide +kernel, by show mT 309 = some .boolean; decide +kernel⟩
theorem mh_309 : HdOK 309 none := by show mH 309 = []; decide +kernel
theorem mf_310 : MFa 310 6 12 2 := ⟨by decide +kernel, by decide +kernel, by decide +kernel, by show mT 310 = some .boolean; decide +kernel⟩
theorem mh_310 : HdOK 310 none := by show mH 310 = []; decide +kernel
theorem mf_311 : MFa 311 13 12 1 := ⟨by decide +kernel, by decide +kernel, by decide +kernel, by show mT 311 = some .int; decide +kernel⟩
theorem mh_311 : HdOK 311 none := by show mH 311 = []; decide +kernel
theorem mf_312 : MFa 312 2 12 2 := ⟨by decide +kernel, by decide +kernel, by decide +kernel, by show mT 312 = some .boolean; decide +kernel⟩
theorem mh_312 : HdOK 312 none := by show mH 312 = []; decide +kernel
theorem mf_313 : MFa 313 4 12 1 := ⟨by decide +kernel, by decide +kernel, by decide +kernel, by show mT 313 = some .int; decide +kernel⟩
theorem mh_313 : HdOK 313 none := by show mH 313 = []; decide +kernel
theorem mf_314 : MFa 314 2 12 1 := ⟨by decide +kernel, by decide +kernel, by decide +kernel, by show mT 314 = some .int; decide +kernel⟩
theorem mh_314 : HdOK 314 none := by show mH 314 = []; decide +kernel
theorem mf_315 : MFa 315 4 12 2 := ⟨by decide +kernel, by decide +kernel, by decide +kernel, by show mT 315 = some .boolean; decide +kernel⟩
theorem mh_315 : HdOK 315 none := by show mH 315 = []; decide +kernel
theorem mf_316 : MFa 316 4 12 2 := ⟨by decide +kernel, by decide +kernel, by decide +kernel, by show mT 316 = some .boolean; decide +kernel⟩
theorem mh_316 : HdOK 316 none := by show mH 316 = []; decide +kernel
theorem mf_317 : MFa 317 1 12 1 := ⟨by decide +kernel, by decide +kernel, by decide +kernel, by show mT 317 = some .int; decide +kernel⟩
theorem mh_317 : HdOK 317 none := by show mH 317 = []; decide +kernel
theorem mf_318 : MFa 318 2 12 1 := ⟨by decide +kernel, by decide +kernel, by decide +kernel, by show mT 318 = some .int; decide +kernel⟩
theorem mh_318 : HdOK 318 none := by show mH 318 = []; decide +kernel
theorem mf_319 : MFa 319 3 12 1 := ⟨by decide +kernel, by decide +kernel, by decide +kernel, by show mT 319 = some .int; decide +kernel⟩
theorem mh_319 : HdOK 319 none := by show mH 319 = []; decide +kernel
theorem mf_320 : MFa 320 4 12 1 := ⟨by decide +kernel, by decide +kernel, by decide +kernel, by show mT 320 = some .int; decide +kernel⟩
theorem mh_320 : HdOK 320 none := by show mH 320 = []; decide +kernel
theorem mf_321 : MFa 321 4 12 1 := ⟨by decide +kernel, by decide +kernel, by decide +kernel, by show mT 321 = some .int; decide +kernel⟩
theorem mh_321 : HdOK 321 none := by show mH 321 = []; decide +kernel
theorem mf_322 : MFa 322 3 12 1 := ⟨by decide +kernel, by decide +kernel, by decide +kernel, by show mT 322 = some .int; decide +kernel⟩
theorem mh_322 : HdOK 322 none := by show mH 322 = []; decide +kernel
theorem mf_323 : MFa 323 4 12 1 := ⟨by decide +kernel, by decide +kernel, by decide +kernel, by show mT 323 = some .int; decide +kernel⟩
theorem mh_323 : HdOK 323 none := by show mH 323 = []; decide +kernel
theorem mf_324 : MFa 324 8 12 1 := ⟨by decide +kernel, by decide +kernel, by decide +kernel, by show mT 324 = some .int; decide +kernel⟩
theorem mh_324 : HdOK 324 none := by show mH 324 = []; decide +kernel
theorem mf_325 : MFa 325 5 12 1 := ⟨by decide +kernel, by decide +kernel, by decide +kernel, by show mT 325 = some .int; decide +kernel⟩
theorem mh_325 : HdOK 325 none := by show mH 325 = []; decide +kernel
theorem mf_326 : MFa 326 2 12 1 := ⟨by decide +kernel, by decide +kernel, by decide +kernel, by show mT 326 = some .int; decide +kernel⟩
theorem mh_326 : HdOK 326 none := by show mH 326 = []; decide +kernel
theorem mf_327 : MFa 327 2 12 1 := ⟨by decide +kernel, by decide +kernel, by decide +kernel, by show mT 327 = some .int; decide +kernel⟩
theorem mh_327 : HdOK 327 none := by show mH 327 = []; decide +kernel
theorem mf_328 : MFa 328 7 12 2 := ⟨by decide +kernel, by decide +kernel, by decide +kernel, by show mT 328 = some .boolean; decide +kernel⟩
theorem mh_328 : HdOK 328 none := by show mH 328 = []; decide +kernel
theorem mf_329 : MFa 329 3 12 2 := ⟨by decide +kernel, by decide +kernel, by decide +kernel, by show mT 329 = some .boolean; decide +kernel⟩
theorem mh_329 : HdOK 329 none := by show mH 329 = []; decide +kernel
theorem mf_330 : MFa 330 3 12 0 := ⟨by decide +kernel, by decide +kernel, by decide +kernel, by show mT 330 = none; decide +kernel⟩
theorem mh_330 : HdOK 330 none := by show mH 330 = []; decide +kernel
theorem mf_331 : MFa 331 3 12 1 := ⟨by decide +kernel, by decide +kernel, by decide +kernel, by show mT 331 = some .int; decide +kernel⟩
theorem mh_331 : HdOK 331 none := by show mH 331 = []; decide +kernel
theorem mf_332 : MFa 332 3 12 1 := ⟨by decide +kernel, by decide +kernel, by decide +kernel, by show mT 332 = some .int; decide +kernel⟩
theorem mh_332 : HdOK 332 none := by show mH 332 = []; decide +kernel
theorem mf_333 : MFa 333 4 12 1 := ⟨by decide +kernel, by decide +kernel, by decide +kernel, by show mT 333 = some .int; decide +kernel⟩
theorem mh_333 : HdOK 333 none := by show mH 333 = []; decide +kernel
theorem mHt_153 : mH 153 = [(23, 54, 57, 150)] := by decide +kernel
theorem mHo_153 : mO 153 = 11 := by decide +kernel
theorem mHd_153 : decode (mC 153) 57 = .ok (.astore_n 2, 1) := by decide +kernel
theorem mHl_153 : 2 < mL 153 := by decide +kernel
theorem mh_153 : HdOK 153 (some (23, 54, 58, 2)) := by
  unfold HdOK
  refine ⟨_, _, (congrArg tableOf mHt_153).trans rfl, fun pc lo h1 h2 => ?_⟩
  exact hd_ok9 (h0 := 57) (j := 2) ⟨show (decide (23 ≤ pc) && decide (pc < 54)) = true by rw [decide_eq_true h1, decide_eq_true h2]; rfl, Or.inl ⟨rfl, Or.inl ⟨mHo_153, rfl⟩⟩⟩ rfl mHd_153 mHl_153
theorem mHt_161 : mH 161 = [(75, 93, 96, 150)] := by decide +kernel
theorem mHo_161 : mO 161 = 11 := by decide +kernel
theorem mHd_161 : decode (mC 161) 96 = .ok (.astore_n 2, 1) := by decide +kernel
theorem mHl_161 : 2 < mL 161 := by decide +kernel
theorem mh_161 : HdOK 161 (some (75, 93, 97, 2)) := by
  unfold HdOK
  refine ⟨_, _, (congrArg tableOf mHt_161).trans rfl, fun pc lo h1 h2 => ?_⟩
  exact hd_ok9 (h0 := 96) (j := 2) ⟨show (decide (75 ≤ pc) && decide (pc < 93)) = true by rw [decide_eq_true h1, decide_eq_true h2]; rfl, Or.inl ⟨rfl, Or.inl ⟨mHo_161, rfl⟩⟩⟩ rfl mHd_161 mHl_161
def Filler_openPlain (σ : MS) (Q : MQ9) : Prop := WP 7 0 16 0 [(0, vr 111)] [] σ Q
def Filler_openLines (σ : MS) (Q : MQ9) : Prop := WP 6 0 17 0 [(0, vr 111)] [] σ Q
def Filler_roomOf (l1 : Int) (σ : MS) (Q : MQ9) : Prop := WP 7 0 18 0 [(0, vr 111), (1, vi l1)] [] σ Q
def Filler_roomOf_27 (s0 : Int) (s1 : Int) (s2 : Int) (σ : MS) (Q : MQ9) : Prop := WP 7 0 18 27 [] [vw s2, vw s1, vw s0] σ Q
def Filler_parts (l1 : Int) (σ : MS) (Q : MQ9) : Prop := WP 6 0 19 0 [(0, vr 111), (1, vi l1)] [] σ Q
def Filler_partLetters (l1 : Nat) (l2 : Int) (l3 : Int) (σ : MS) (Q : MQ9) : Prop := WP 8 0 20 0 [(0, vr 111), (1, vr l1), (2, vi l2), (3, vi l3)] [] σ Q
def Filler_partLetters_8 (l1 : Nat) (l2 : Int) (l3 : Int) (l4 : Int) (σ : MS) (Q : MQ9) : Prop := WP 8 0 20 8 [(0, vr 111), (1, vr l1), (2, vi l2), (3, vi l3), (4, vi l4)] [] σ Q
def Filler_partLetters_59 (l1 : Nat) (l2 : Int) (l3 : Int) (l4 : Int) (l5 : Int) (σ : MS) (Q : MQ9) : Prop := WP 8 0 20 59 [(0, vr 111), (1, vr l1), (2, vi l2), (3, vi l3), (4, vi l4), (5, vi l5)] [] σ Q
def Filler_partLetters_92 (l1 : Nat) (l2 : Int) (l3 : Int) (l4 : Int) (l5 : Int) (σ : MS) (Q : MQ9) : Prop := WP 8 0 20 92 [(0, vr 111), (1, vr l1), (2, vi l2), (3, vi l3), (4, vi l4), (5, vi l5)] [] σ Q
def Filler_partLetters_110 (l1 : Nat) (l2 : Int) (l3 : Int) (l4 : Int) (l5 : Int) (l6 : Int) (σ : MS) (Q : MQ9) : Prop := WP 8 0 20 110 [(0, vr 111), (1, vr l1), (2, vi l2), (3, vi l3), (4, vi l4), (5, vi l5), (6, vi l6)] [] σ Q
def Filler_partLetters_165 (l4 : Int) (l5 : Int) (l6 : Int) (l7 : Int) (σ : MS) (Q : MQ9) : Prop := WP 8 0 20 165 [(0, vr 111), (4, vi l4), (5, vw l5), (6, vw l6), (7, vi l7)] [] σ Q
def Filler_partLetters_189 (l4 : Int) (l5 : Int) (l6 : Int) (l7 : Int) (σ : MS) (Q : MQ9) : Prop := WP 8 0 20 189 [(0, vr 111), (4, vi l4), (5, vw l5), (6, vw l6), (7, vi l7)] [] σ Q
def Filler_partLetters_199 (l4 : Int) (l5 : Int) (l6 : Int) (l7 : Int) (σ : MS) (Q : MQ9) : Prop := WP 8 0 20 199 [(0, vr 111), (4, vi l4), (5, vw l5), (6, vw l6), (7, vi l7)] [] σ Q
def Filler_layException (l1 : Int) (σ : MS) (Q : MQ9) : Prop := WP 6 0 21 0 [(0, vr 111), (1, vi l1)] [] σ Q
def Filler_layException_14 (l1 : Int) (l2 : Int) (l3 : Int) (σ : MS) (Q : MQ9) : Prop := WP 6 0 21 14 [(0, vr 111), (1, vi l1), (2, vi l2), (3, vi l3)] [] σ Q
def Filler_layException_69 (l1 : Int) (l2 : Int) (l3 : Int) (σ : MS) (Q : MQ9) : Prop := WP 6 0 21 69 [(0, vr 111), (1, vi l1), (2, vi l2), (3, vi l3)] [] σ Q
def Filler_isExceptionOf (l1 : Int) (l2 : Nat) (l3 : Int) (l4 : Int) (σ : MS) (Q : MQ9) : Prop := WP 7 0 22 0 [(0, vr 111), (1, vi l1), (2, vr l2), (3, vi l3), (4, vi l4)] [] σ Q
def Filler_isExceptionOf_16 (l1 : Int) (l2 : Nat) (l4 : Int) (l5 : Int) (l6 : Int) (σ : MS) (Q : MQ9) : Prop := WP 7 0 22 16 [(0, vr 111), (1, vi l1), (2, vr l2), (4, vi l4), (5, vi l5), (6, vi l6)] [] σ Q
def Filler_isExceptionOf_85 (l1 : Int) (l2 : Nat) (l4 : Int) (l5 : Int) (l6 : Int) (σ : MS) (Q : MQ9) : Prop := WP 7 0 22 85 [(0, vr 111), (1, vi l1), (2, vr l2), (4, vi l4), (5, vi l5), (6, vi l6)] [] σ Q
def Filler_layPattern (l1 : Int) (l2 : Int) (l3 : Nat) (l4 : Int) (l5 : Int) (σ : MS) (Q : MQ9) : Prop := WP 7 0 23 0 [(0, vr 111), (1, vi l1), (2, vi l2), (3, vr l3), (4, vi l4), (5, vi l5)] [] σ Q
def Filler_layPattern_28 (l1 : Int) (l2 : Int) (l3 : Nat) (l4 : Int) (l5 : Int) (l7 : Int) (l8 : Int) (σ : MS) (Q : MQ9) : Prop := WP 7 0 23 28 [(0, vr 111), (1, vi l1), (2, vi l2), (3, vr l3), (4, vi l4), (5, vi l5), (6, vr 40), (7, vi l7), (8, vi l8)] [] σ Q
def Filler_layPattern_86 (l1 : Int) (l2 : Int) (l3 : Nat) (l4 : Int) (l5 : Int) (l7 : Int) (l8 : Int) (l9 : Int) (l10 : Int) (σ : MS) (Q : MQ9) : Prop := WP 7 0 23 86 [(0, vr 111), (1, vi l1), (2, vi l2), (3, vr l3), (4, vi l4), (5, vi l5), (6, vr 40), (7, vi l7), (8, vi l8), (9, vw l9), (10, vi l10)] [] σ Q
def Filler_layPattern_103 (l1 : Int) (l2 : Int) (l3 : Nat) (l4 : Int) (l5 : Int) (l7 : Int) (l8 : Int) (l9 : Int) (l10 : Int) (s0 : Int) (σ : MS) (Q : MQ9) : Prop := WP 7 0 23 103 [(0, vr 111), (1, vi l1), (2, vi l2), (3, vr l3), (4, vi l4), (5, vi l5), (6, vr 40), (7, vi l7), (8, vi l8), (9, vw l9), (10, vi l10)] [vw s0] σ Q
def Filler_layPattern_123 (l1 : Int) (l2 : Int) (l3 : Nat) (l4 : Int) (l5 : Int) (l7 : Int) (l8 : Int) (σ : MS) (Q : MQ9) : Prop := WP 7 0 23 123 [(0, vr 111), (1, vi l1), (2, vi l2), (3, vr l3), (4, vi l4), (5, vi l5), (6, vr 40), (7, vi l7), (8, vi l8)] [] σ Q
def Filler_layPattern_145 (l1 : Int) (l7 : Int) (l8 : Int) (σ : MS) (Q : MQ9) : Prop := WP 7 0 23 145 [(0, vr 111), (1, vi l1), (6, vr 40), (7, vi l7), (8, vi l8)] [] σ Q
def Filler_layPattern_216 (l1 : Int) (l7 : Int) (l8 : Int) (σ : MS) (Q : MQ9) : Prop := WP 7 0 23 216 [(0, vr 111), (1, vi l1), (6, vr 40), (7, vi l7), (8, vi l8)] [] σ Q
def Filler_pointAt (l1 : Nat) (l2 : Int) (l3 : Int) (l4 : Int) (σ : MS) (Q : MQ9) : Prop := WP 9 0 24 0 [(0, vr 111), (1, vr l1), (2, vi l2), (3, vi l3), (4, vi l4)] [] σ Q
def Filler_pointAt_63 (l1 : Nat) (l2 : Int) (l3 : Int) (l4 : Int) (l5 : Int) (σ : MS) (Q : MQ9) : Prop := WP 9 0 24 63 [(0, vr 111), (1, vr l1), (2, vi l2), (3, vi l3), (4, vi l4), (5, vw l5)] [] σ Q
def Filler_pointAt_99 (l1 : Nat) (l2 : Int) (l3 : Int) (l4 : Int) (l6 : Int) (σ : MS) (Q : MQ9) : Prop := WP 9 0 24 99 [(0, vr 111), (1, vr l1), (2, vi l2), (3, vi l3), (4, vi l4), (6, vi l6)] [] σ Q
def Filler_pointAt_137 (l1 : Nat) (l2 : Int) (l4 : Int) (l6 : Int) (σ : MS) (Q : MQ9) : Prop := WP 9 0 24 137 [(0, vr 111), (1, vr l1), (2, vi l2), (4, vi l4), (6, vi l6)] [] σ Q
def Filler_pointAt_142 (l1 : Nat) (l2 : Int) (l4 : Int) (l6 : Int) (l7 : Int) (σ : MS) (Q : MQ9) : Prop := WP 9 0 24 142 [(0, vr 111), (1, vr l1), (2, vi l2), (4, vi l4), (6, vi l6), (7, vi l7)] [] σ Q
def Filler_pointAt_180 (l1 : Nat) (l2 : Int) (l6 : Int) (l7 : Int) (σ : MS) (Q : MQ9) : Prop := WP 9 0 24 180 [(0, vr 111), (1, vr l1), (2, vi l2), (6, vi l6), (7, vi l7)] [] σ Q
def Filler_pointAt_210 (l2 : Int) (l6 : Int) (σ : MS) (Q : MQ9) : Prop := WP 9 0 24 210 [(0, vr 111), (2, vi l2), (6, vi l6)] [] σ Q
def Filler_putLine (l1 : Int) (l2 : Int) (l3 : Int) (σ : MS) (Q : MQ9) : Prop := WP 6 0 25 0 [(0, vr 111), (1, vi l1), (2, vi l2), (3, vi l3)] [] σ Q
def Filler_putLine_29 (s1 : Int) (σ : MS) (Q : MQ9) : Prop := WP 6 0 25 29 [] [vw s1, vr 116] σ Q
def Filler_fill (l1 : Nat) (l2 : Int) (l3 : Int) (l4 : Int) (l5 : Int) (σ : MS) (Q : MQ9) : Prop := WP 10 0 26 0 [(0, vr 111), (1, vr l1), (2, vi l2), (3, vi l3), (4, vi l4), (5, vi l5)] [] σ Q
def Filler_fill_13 (l1 : Nat) (l2 : Int) (l3 : Int) (l4 : Int) (l5 : Int) (l6 : Int) (l7 : Int) (σ : MS) (Q : MQ9) : Prop := WP 10 0 26 13 [(0, vr 111), (1, vr l1), (2, vi l2), (3, vi l3), (4, vi l4), (5, vi l5), (6, vi l6), (7, vi l7)] [] σ Q
def Filler_fill_41 (l1 : Nat) (l2 : Int) (l3 : Int) (l4 : Int) (l5 : Int) (l6 : Int) (l7 : Int) (s0 : Int) (s1 : Int) (s2 : Int) (s3 : Int) (σ : MS) (Q : MQ9) : Prop := WP 10 0 26 41 [(0, vr 111), (1, vr l1), (2, vi l2), (3, vi l3), (4, vi l4), (5, vi l5), (6, vi l6), (7, vi l7)] [vi s3, vw s2, vi s1, vi s0] σ Q
def Filler_fill_54 (l1 : Nat) (l2 : Int) (l3 : Int) (l4 : Int) (l5 : Int) (l6 : Int) (l7 : Int) (l8 : Int) (l9 : Int) (σ : MS) (Q : MQ9) : Prop := WP 10 0 26 54 [(0, vr 111), (1, vr l1), (2, vi l2), (3, vi l3), (4, vi l4), (5, vi l5), (6, vi l6), (7, vi l7), (8, vw l8), (9, vi l9)] [] σ Q
def Filler_fill_84 (l1 : Nat) (l2 : Int) (l3 : Int) (l4 : Int) (l5 : Int) (l6 : Int) (l7 : Int) (l8 : Int) (l9 : Int) (σ : MS) (Q : MQ9) : Prop := WP 10 0 26 84 [(0, vr 111), (1, vr l1), (2, vi l2), (3, vi l3), (4, vi l4), (5, vi l5), (6, vi l6), (7, vi l7), (8, vw l8), (9, vi l9)] [] σ Q
def Filler_fill_98 (l1 : Nat) (l2 : Int) (l3 : Int) (l4 : Int) (l5 : Int) (l6 : Int) (l7 : Int) (l8 : Int) (l9 : Int) (s0 : Int) (σ : MS) (Q : MQ9) : Prop := WP 10 0 26 98 [(0, vr 111), (1, vr l1), (2, vi l2), (3, vi l3), (4, vi l4), (5, vi l5), (6, vi l6), (7, vi l7), (8, vw l8), (9, vi l9)] [vi s0] σ Q
def Filler_fill_116 (l1 : Nat) (l2 : Int) (l3 : Int) (l4 : Int) (l5 : Int) (l6 : Int) (l7 : Int) (l8 : Int) (l10 : Int) (s0 : Int) (σ : MS) (Q : MQ9) : Prop := WP 10 0 26 116 [(0, vr 111), (1, vr l1), (2, vi l2), (3, vi l3), (4, vi l4), (5, vi l5), (6, vi l6), (7, vi l7), (8, vw l8), (10, vi l10)] [vi s0] σ Q
def Filler_fill_125 (l1 : Nat) (l2 : Int) (l3 : Int) (l4 : Int) (l5 : Int) (l6 : Int) (l7 : Int) (l8 : Int) (l10 : Int) (l11 : Int) (l12 : Int) (l13 : Int) (σ : MS) (Q : MQ9) : Prop := WP 10 0 26 125 [(0, vr 111), (1, vr l1), (2, vi l2), (3, vi l3), (4, vi l4), (5, vi l5), (6, vi l6), (7, vi l7), (8, vw l8), (10, vi l10), (11, vi l11), (12, vw l12), (13, vi l13)] [] σ Q
def Filler_fill_162 (l1 : Nat) (l2 : Int) (l3 : Int) (l4 : Int) (l5 : Int) (l6 : Int) (l7 : Int) (l13 : Int) (l14 : Int) (σ : MS) (Q : MQ9) : Prop := WP 10 0 26 162 [(0, vr 111), (1, vr l1), (2, vi l2), (3, vi l3), (4, vi l4), (5, vi l5), (6, vi l6), (7, vi l7), (13, vi l13), (14, vw l14)] [] σ Q
def Filler_fill_177 (l1 : Nat) (l2 : Int) (l3 : Int) (l4 : Int) (l5 : Int) (l6 : Int) (l7 : Int) (l10 : Int) (s0 : Int) (σ : MS) (Q : MQ9) : Prop := WP 10 0 26 177 [(0, vr 111), (1, vr l1), (2, vi l2), (3, vi l3), (4, vi l4), (5, vi l5), (6, vi l6), (7, vi l7), (10, vi l10)] [vw s0] σ Q
def Filler_fill_182 (l1 : Nat) (l2 : Int) (l3 : Int) (l4 : Int) (l5 : Int) (l6 : Int) (l7 : Int) (l8 : Int) (l10 : Int) (l11 : Int) (l12 : Int) (l13 : Int) (σ : MS) (Q : MQ9) : Prop := WP 10 0 26 182 [(0, vr 111), (1, vr l1), (2, vi l2), (3, vi l3), (4, vi l4), (5, vi l5), (6, vi l6), (7, vi l7), (8, vw l8), (10, vi l10), (11, vi l11), (12, vw l12), (13, vi l13)] [] σ Q
def Filler_fill_188 (l1 : Nat) (l2 : Int) (l3 : Int) (l4 : Int) (l5 : Int) (l6 : Int) (l7 : Int) (l10 : Int) (l12 : Int) (σ : MS) (Q : MQ9) : Prop := WP 10 0 26 188 [(0, vr 111), (1, vr l1), (2, vi l2), (3, vi l3), (4, vi l4), (5, vi l5), (6, vi l6), (7, vi l7), (10, vi l10), (12, vw l12)] [] σ Q
def Filler_fill_218 (l1 : Nat) (l2 : Int) (l3 : Int) (l4 : Int) (l5 : Int) (l7 : Int) (s0 : Int) (σ : MS) (Q : MQ9) : Prop := WP 10 0 26 218 [(0, vr 111), (1, vr l1), (2, vi l2), (3, vi l3), (4, vi l4), (5, vi l5), (7, vi l7)] [vi s0] σ Q
def Filler_fillBest (l1 : Nat) (l2 : Int) (l3 : Int) (σ : MS) (Q : MQ9) : Prop := WP 10 0 27 0 [(0, vr 111), (1, vr l1), (2, vi l2), (3, vi l3)] [] σ Q
def Filler_fillBest_29 (l1 : Nat) (l2 : Int) (l3 : Int) (l4 : Int) (σ : MS) (Q : MQ9) : Prop := WP 10 0 27 29 [(0, vr 111), (1, vr l1), (2, vi l2), (3, vi l3), (4, vi l4)] [] σ Q
def Filler_fillBest_87 (l1 : Nat) (l2 : Int) (l3 : Int) (l4 : Int) (σ : MS) (Q : MQ9) : Prop := WP 10 0 27 87 [(0, vr 111), (1, vr l1), (2, vi l2), (3, vi l3), (4, vi l4)] [] σ Q
def Filler_fillBest_122 (l1 : Nat) (l2 : Int) (l3 : Int) (l4 : Int) (σ : MS) (Q : MQ9) : Prop := WP 10 0 27 122 [(0, vr 111), (1, vr l1), (2, vi l2), (3, vi l3), (4, vi l4)] [] σ Q
def Filler_fillBest_136 (l1 : Nat) (l2 : Int) (l3 : Int) (l4 : Int) (s1 : Nat) (s2 : Int) (s3 : Int) (σ : MS) (Q : MQ9) : Prop := WP 10 0 27 136 [(0, vr 111), (1, vr l1), (2, vi l2), (3, vi l3), (4, vi l4)] [vi s3, vi s2, vr s1, vr 111] σ Q
def Filler_fillBest_139 (l1 : Nat) (l2 : Int) (l3 : Int) (l4 : Int) (σ : MS) (Q : MQ9) : Prop := WP 10 0 27 139 [(0, vr 111), (1, vr l1), (2, vi l2), (3, vi l3), (4, vi l4)] [] σ Q
def Filler_fillBest_168 (l1 : Nat) (l4 : Int) (l5 : Int) (σ : MS) (Q : MQ9) : Prop := WP 10 0 27 168 [(0, vr 111), (1, vr l1), (4, vi l4), (5, vi l5)] [] σ Q
def Filler_fillBest_216 (l1 : Nat) (l5 : Int) (l6 : Int) (s1 : Int) (s2 : Int) (s3 : Int) (σ : MS) (Q : MQ9) : Prop := WP 10 0 27 216 [(0, vr 111), (1, vr l1), (5, vi l5), (6, vw l6)] [vw s3, vw s2, vi s1, vr 111] σ Q
def Filler_fillBest_239 (l1 : Nat) (l5 : Int) (s0 : Int) (σ : MS) (Q : MQ9) : Prop := WP 10 0 27 239 [(0, vr 111), (1, vr l1), (5, vi l5)] [vi s0] σ Q
def Filler_choose (l1 : Nat) (l2 : Int) (l3 : Int) (σ : MS) (Q : MQ9) : Prop := WP 7 0 28 0 [(0, vr 111), (1, vr l1), (2, vi l2), (3, vi l3)] [] σ Q
def Filler_choose_5 (l1 : Nat) (l2 : Int) (l3 : Int) (l4 : Int) (σ : MS) (Q : MQ9) : Prop := WP 7 0 28 5 [(0, vr 111), (1, vr l1), (2, vi l2), (3, vi l3), (4, vi l4)] [] σ Q
def Filler_choose_64 (l1 : Nat) (l2 : Int) (l3 : Int) (l4 : Int) (l5 : Int) (σ : MS) (Q : MQ9) : Prop := WP 7 0 28 64 [(0, vr 111), (1, vr l1), (2, vi l2), (3, vi l3), (4, vi l4), (5, vw l5)] [] σ Q
def Filler_choose_84 (l1 : Nat) (l2 : Int) (l3 : Int) (l4 : Int) (σ : MS) (Q : MQ9) : Prop := WP 7 0 28 84 [(0, vr 111), (1, vr l1), (2, vi l2), (3, vi l3), (4, vi l4)] [] σ Q
def Filler_costOf (l1 : Nat) (l2 : Int) (l3 : Int) (l4 : Int) (σ : MS) (Q : MQ9) : Prop := WP 6 0 29 0 [(0, vr 111), (1, vr l1), (2, vi l2), (3, vi l3), (4, vi l4)] [] σ Q
def Filler_costOf_25 (l2 : Int) (l3 : Int) (l4 : Int) (s0 : Int) (σ : MS) (Q : MQ9) : Prop := WP 6 0 29 25 [(0, vr 111), (2, vi l2), (3, vi l3), (4, vi l4)] [vw s0] σ Q
def Filler_costOf_49 (l2 : Int) (l3 : Int) (l4 : Int) (l5 : Int) (l6 : Int) (σ : MS) (Q : MQ9) : Prop := WP 6 0 29 49 [(0, vr 111), (2, vi l2), (3, vi l3), (4, vi l4), (5, vw l5), (6, vw l6)] [] σ Q
def Filler_costOf_60 (l2 : Int) (l3 : Int) (l4 : Int) (l5 : Int) (s0 : Int) (σ : MS) (Q : MQ9) : Prop := WP 6 0 29 60 [(0, vr 111), (2, vi l2), (3, vi l3), (4, vi l4), (5, vw l5)] [vw s0] σ Q
def Filler_costOf_89 (l7 : Int) (l8 : Int) (s1 : Int) (σ : MS) (Q : MQ9) : Prop := WP 6 0 29 89 [(7, vw l7), (8, vi l8)] [vi s1, vr 122] σ Q
def Filler_costOf_105 (σ : MS) (Q : MQ9) : Prop := WP 6 0 29 105 [] [] σ Q
def Filler_print (l1 : Nat) (l2 : Int) (l3 : Nat) (σ : MS) (Q : MQ9) : Prop := WP 8 0 30 0 [(0, vr 111), (1, vr l1), (2, vi l2), (3, vr l3)] [] σ Q
def Filler_print_79 (l1 : Nat) (l2 : Int) (l3 : Nat) (l4 : Int) (l5 : Int) (l6 : Int) (σ : MS) (Q : MQ9) : Prop := WP 8 0 30 79 [(0, vr 111), (1, vr l1), (2, vi l2), (3, vr l3), (4, vw l4), (5, vw l5), (6, vw l6)] [] σ Q
def Filler_print_111 (l1 : Nat) (l2 : Int) (l3 : Nat) (l4 : Int) (l5 : Int) (l6 : Int) (s0 : Nat) (s1 : Int) (s2 : Int) (σ : MS) (Q : MQ9) : Prop := WP 8 0 30 111 [(0, vr 111), (1, vr l1), (2, vi l2), (3, vr l3), (4, vw l4), (5, vw l5), (6, vw l6)] [vw s2, vw s1, vr s0] σ Q
def Filler_print_121 (l1 : Nat) (l2 : Int) (l3 : Nat) (l4 : Int) (l5 : Int) (l6 : Int) (l7 : Int) (l8 : Int) (σ : MS) (Q : MQ9) : Prop := WP 8 0 30 121 [(0, vr 111), (1, vr l1), (2, vi l2), (3, vr l3), (4, vw l4), (5, vw l5), (6, vw l6), (7, vi l7), (8, vi l8)] [] σ Q
def Filler_print_146 (l1 : Nat) (l2 : Int) (l3 : Nat) (l4 : Int) (l5 : Int) (l6 : Int) (l8 : Int) (s0 : Int) (s1 : Int) (σ : MS) (Q : MQ9) : Prop := WP 8 0 30 146 [(0, vr 111), (1, vr l1), (2, vi l2), (3, vr l3), (4, vw l4), (5, vw l5), (6, vw l6), (8, vi l8)] [vw s1, vi s0] σ Q
def Filler_print_185 (l1 : Nat) (l2 : Int) (l3 : Nat) (l4 : Int) (l5 : Int) (l6 : Int) (l7 : Int) (σ : MS) (Q : MQ9) : Prop := WP 8 0 30 185 [(0, vr 111), (1, vr l1), (2, vi l2), (3, vr l3), (4, vw l4), (5, vw l5), (6, vw l6), (7, vi l7)] [] σ Q
def Filler_print_186 (l1 : Nat) (l2 : Int) (l3 : Nat) (l4 : Int) (l5 : Int) (l6 : Int) (l7 : Int) (s0 : Int) (σ : MS) (Q : MQ9) : Prop := WP 8 0 30 186 [(0, vr 111), (1, vr l1), (2, vi l2), (3, vr l3), (4, vw l4), (5, vw l5), (6, vw l6), (7, vi l7)] [vw s0] σ Q
def Filler_print_202 (l1 : Nat) (l2 : Int) (l3 : Nat) (l4 : Int) (l5 : Int) (l6 : Int) (l7 : Int) (l8 : Int) (s0 : Int) (σ : MS) (Q : MQ9) : Prop := WP 8 0 30 202 [(0, vr 111), (1, vr l1), (2, vi l2), (3, vr l3), (4, vw l4), (5, vw l5), (6, vw l6), (7, vi l7), (8, vw l8)] [vw s0] σ Q
def Filler_print_218 (l1 : Nat) (l2 : Int) (l3 : Nat) (l4 : Int) (l5 : Int) (l7 : Int) (l9 : Int) (s0 : Int) (σ : MS) (Q : MQ9) : Prop := WP 8 0 30 218 [(0, vr 111), (1, vr l1), (2, vi l2), (3, vr l3), (4, vw l4), (5, vw l5), (7, vi l7), (9, vw l9)] [vw s0] σ Q
def Filler_print_227 (l1 : Nat) (l2 : Int) (l3 : Nat) (l5 : Int) (l7 : Int) (l9 : Int) (l10 : Int) (l11 : Int) (l12 : Int) (σ : MS) (Q : MQ9) : Prop := WP 8 0 30 227 [(0, vr 111), (1, vr l1), (2, vi l2), (3, vr l3), (5, vw l5), (7, vi l7), (9, vw l9), (10, vw l10), (11, vi l11), (12, vi l12)] [] σ Q
def Filler_print_291 (l1 : Nat) (l2 : Int) (l3 : Nat) (l5 : Int) (l7 : Int) (l9 : Int) (l10 : Int) (l11 : Int) (l12 : Int) (s0 : Int) (σ : MS) (Q : MQ9) : Prop := WP 8 0 30 291 [(0, vr 111), (1, vr l1), (2, vi l2), (3, vr l3), (5, vw l5), (7, vi l7), (9, vw l9), (10, vw l10), (11, vi l11), (12, vi l12)] [vw s0] σ Q
def Filler_print_310 (l1 : Nat) (l2 : Int) (l3 : Nat) (l5 : Int) (l7 : Int) (l9 : Int) (l10 : Int) (l11 : Int) (l12 : Int) (s0 : Nat) (s1 : Int) (s2 : Int) (σ : MS) (Q : MQ9) : Prop := WP 8 0 30 310 [(0, vr 111), (1, vr l1), (2, vi l2), (3, vr l3), (5, vw l5), (7, vi l7), (9, vw l9), (10, vw l10), (11, vi l11), (12, vi l12)] [vi s2, vw s1, vr s0] σ Q
def Filler_print_316 (l1 : Nat) (l2 : Int) (l3 : Nat) (l5 : Int) (l7 : Int) (l9 : Int) (l10 : Int) (l11 : Int) (l12 : Int) (σ : MS) (Q : MQ9) : Prop := WP 8 0 30 316 [(0, vr 111), (1, vr l1), (2, vi l2), (3, vr l3), (5, vw l5), (7, vi l7), (9, vw l9), (10, vw l10), (11, vi l11), (12, vi l12)] [] σ Q
def Galley_clear (σ : MS) (Q : MQ9) : Prop := WP 7 0 31 0 [(0, vr 128)] [] σ Q
def Galley_beginBlock (l1 : Int) (σ : MS) (Q : MQ9) : Prop := WP 6 0 32 0 [(0, vr 128), (1, vi l1)] [] σ Q
def Galley_beginBlock_17 (σ : MS) (Q : MQ9) : Prop := WP 6 0 32 17 [(0, vr 128)] [] σ Q
def Galley_finish (l1 : Int) (l2 : Int) (l3 : Int) (σ : MS) (Q : MQ9) : Prop := WP 7 0 33 0 [(0, vr 128), (1, vi l1), (2, vi l2), (3, vi l3)] [] σ Q
def Galley_finish_26 (l1 : Int) (l2 : Int) (l3 : Int) (l4 : Int) (σ : MS) (Q : MQ9) : Prop := WP 7 0 33 26 [(0, vr 128), (1, vi l1), (2, vi l2), (3, vi l3), (4, vw l4)] [] σ Q
def Galley_paginate (l1 : Int) (σ : MS) (Q : MQ9) : Prop := WP 8 0 34 0 [(0, vr 128), (1, vi l1)] [] σ Q
def Galley_paginate_4 (l1 : Int) (l2 : Int) (l3 : Int) (σ : MS) (Q : MQ9) : Prop := WP 8 0 34 4 [(0, vr 128), (1, vi l1), (2, vi l2), (3, vi l3)] [] σ Q
def Galley_paginate_52 (l1 : Int) (l3 : Int) (σ : MS) (Q : MQ9) : Prop := WP 8 0 34 52 [(0, vr 128), (1, vi l1), (3, vi l3)] [] σ Q
def Galley_paginate_82 (l1 : Int) (l2 : Int) (l3 : Int) (σ : MS) (Q : MQ9) : Prop := WP 8 0 34 82 [(0, vr 128), (1, vi l1), (2, vi l2), (3, vi l3)] [] σ Q
def Galley_pageEnd (l1 : Int) (l2 : Int) (σ : MS) (Q : MQ9) : Prop := WP 7 0 35 0 [(0, vr 128), (1, vi l1), (2, vi l2)] [] σ Q
def Galley_pageEnd_18 (l1 : Int) (l2 : Int) (l3 : Int) (l4 : Int) (l5 : Int) (l6 : Int) (l7 : Int) (σ : MS) (Q : MQ9) : Prop := WP 7 0 35 18 [(0, vr 128), (1, vi l1), (2, vi l2), (3, vi l3), (4, vi l4), (5, vi l5), (6, vi l6), (7, vi l7)] [] σ Q
def Galley_pageEnd_45 (l1 : Int) (l2 : Int) (l3 : Int) (l4 : Int) (l5 : Int) (l6 : Int) (l7 : Int) (σ : MS) (Q : MQ9) : Prop := WP 7 0 35 45 [(0, vr 128), (1, vi l1), (2, vi l2), (3, vi l3), (4, vi l4), (5, vi l5), (6, vi l6), (7, vi l7)] [] σ Q
def Galley_pageEnd_101 (l1 : Int) (l2 : Int) (l3 : Int) (l4 : Int) (l5 : Int) (l6 : Int) (l7 : Int) (σ : MS) (Q : MQ9) : Prop := WP 7 0 35 101 [(0, vr 128), (1, vi l1), (2, vi l2), (3, vi l3), (4, vi l4), (5, vi l5), (6, vi l6), (7, vi l7)] [] σ Q
def Galley_pageEnd_120 (l1 : Int) (l2 : Int) (l3 : Int) (l4 : Int) (l5 : Int) (l6 : Int) (l7 : Int) (s0 : Int) (s1 : Int) (σ : MS) (Q : MQ9) : Prop := WP 7 0 35 120 [(0, vr 128), (1, vi l1), (2, vi l2), (3, vi l3), (4, vi l4), (5, vi l5), (6, vi l6), (7, vi l7)] [vi s1, vi s0] σ Q
def Galley_pageEnd_189 (l1 : Int) (l2 : Int) (l3 : Int) (l4 : Int) (l5 : Int) (l6 : Int) (l7 : Int) (σ : MS) (Q : MQ9) : Prop := WP 7 0 35 189 [(0, vr 128), (1, vi l1), (2, vi l2), (3, vi l3), (4, vi l4), (5, vi l5), (6, vi l6), (7, vi l7)] [] σ Q
def Galley_pageEnd_195 (l1 : Int) (l3 : Int) (l4 : Int) (σ : MS) (Q : MQ9) : Prop := WP 7 0 35 195 [(1, vi l1), (3, vi l3), (4, vi l4)] [] σ Q
def Galley_firstNote (l1 : Int) (σ : MS) (Q : MQ9) : Prop := WP 6 0 36 0 [(0, vr 128), (1, vi l1)] [] σ Q
def Galley_firstNote_2 (l1 : Int) (l2 : Int) (σ : MS) (Q : MQ9) : Prop := WP 6 0 36 2 [(0, vr 128), (1, vi l1), (2, vi l2)] [] σ Q
def Galley_turnToPages (l1 : Nat) (σ : MS) (Q : MQ9) : Prop := WP 6 0 37 0 [(0, vr 128), (1, vr l1)] [] σ Q
def Galley_turnToPages_2 (l1 : Nat) (l2 : Int) (σ : MS) (Q : MQ9) : Prop := WP 6 0 37 2 [(0, vr 128), (1, vr l1), (2, vi l2)] [] σ Q
def Galley_turnToPages_12 (l1 : Nat) (l2 : Int) (l3 : Int) (σ : MS) (Q : MQ9) : Prop := WP 6 0 37 12 [(0, vr 128), (1, vr l1), (2, vi l2), (3, vi l3)] [] σ Q
def Galley_turnToPages_45 (l1 : Nat) (l2 : Int) (l3 : Int) (σ : MS) (Q : MQ9) : Prop := WP 6 0 37 45 [(0, vr 128), (1, vr l1), (2, vi l2), (3, vi l3)] [] σ Q
def Marks_clear (l0 : Nat) (σ : MS) (Q : MQ9) : Prop := WP 7 0 38 0 [(0, vr l0)] [] σ Q
def Marks_like (l0 : Nat) (l1 : Nat) (σ : MS) (Q : MQ9) : Prop := WP 7 0 39 0 [(0, vr l0), (1, vr l1)] [] σ Q
def Marks_putLabel (l0 : Nat) (l1 : Nat) (l2 : Int) (σ : MS) (Q : MQ9) : Prop := WP 8 0 40 0 [(0, vr l0), (1, vr l1), (2, vi l2)] [] σ Q
def Marks_order (l0 : Nat) (l1 : Nat) (σ : MS) (Q : MQ9) : Prop := WP 8 0 41 0 [(0, vr l0), (1, vr l1)] [] σ Q
def Marks_order_6 (l0 : Nat) (l1 : Nat) (l2 : Int) (σ : MS) (Q : MQ9) : Prop := WP 8 0 41 6 [(0, vr l0), (1, vr l1), (2, vi l2)] [] σ Q
def Marks_order_19 (l0 : Nat) (l1 : Nat) (l2 : Int) (l3 : Int) (σ : MS) (Q : MQ9) : Prop := WP 8 0 41 19 [(0, vr l0), (1, vr l1), (2, vi l2), (3, vi l3)] [] σ Q
def Marks_order_46 (l0 : Nat) (l1 : Nat) (l2 : Int) (l3 : Int) (σ : MS) (Q : MQ9) : Prop := WP 8 0 41 46 [(0, vr l0), (1, vr l1), (2, vi l2), (3, vi l3)] [] σ Q
def Marks_order_67 (l0 : Nat) (l1 : Nat) (l2 : Int) (l3 : Int) (σ : MS) (Q : MQ9) : Prop := WP 8 0 41 67 [(0, vr l0), (1, vr l1), (2, vi l2), (3, vi l3)] [] σ Q
def Marks_order_80 (l0 : Nat) (l1 : Nat) (l2 : Int) (l3 : Int) (l4 : Int) (σ : MS) (Q : MQ9) : Prop := WP 8 0 41 80 [(0, vr l0), (1, vr l1), (2, vi l2), (3, vi l3), (4, vi l4)] [] σ Q
def Marks_order_112 (l0 : Nat) (l1 : Nat) (l2 : Int) (σ : MS) (Q : MQ9) : Prop := WP 8 0 41 112 [(0, vr l0), (1, vr l1), (2, vi l2)] [] σ Q
def Marks_compareKeys (l0 : Nat) (l1 : Int) (l2 : Int) (σ : MS) (Q : MQ9) : Prop := WP 7 0 42 0 [(0, vr l0), (1, vi l1), (2, vi l2)] [] σ Q
def Marks_compareKeys_50 (l0 : Nat) (l3 : Int) (l4 : Int) (l5 : Int) (l6 : Int) (l7 : Int) (l8 : Int) (σ : MS) (Q : MQ9) : Prop := WP 7 0 42 50 [(0, vr l0), (3, vw l3), (4, vw l4), (5, vi l5), (6, vi l6), (7, vi l7), (8, vi l8)] [] σ Q
def Marks_compareKeys_137 (l0 : Nat) (l3 : Int) (l4 : Int) (l5 : Int) (l6 : Int) (l8 : Int) (s0 : Int) (σ : MS) (Q : MQ9) : Prop := WP 7 0 42 137 [(0, vr l0), (3, vw l3), (4, vw l4), (5, vi l5), (6, vi l6), (8, vi l8)] [vi s0] σ Q
def Marks_compareKeys_145 (l5 : Int) (l6 : Int) (l7 : Int) (σ : MS) (Q : MQ9) : Prop := WP 7 0 42 145 [(5, vi l5), (6, vi l6), (7, vi l7)] [] σ Q
def Marks_putEntry (l0 : Nat) (l1 : Int) (l2 : Nat) (σ : MS) (Q : MQ9) : Prop := WP 8 0 43 0 [(0, vr l0), (1, vi l1), (2, vr l2)] [] σ Q
def Marks_putEntry_9 (l0 : Nat) (l1 : Int) (l2 : Nat) (l3 : Int) (σ : MS) (Q : MQ9) : Prop := WP 8 0 43 9 [(0, vr l0), (1, vi l1), (2, vr l2), (3, vi l3)] [] σ Q
def Marks_putEntry_61 (l0 : Nat) (l1 : Int) (l2 : Nat) (l3 : Int) (l4 : Int) (σ : MS) (Q : MQ9) : Prop := WP 8 0 43 61 [(0, vr l0), (1, vi l1), (2, vr l2), (3, vi l3), (4, vw l4)] [] σ Q
def Marks_putEntry_79 (l0 : Nat) (l1 : Int) (l2 : Nat) (l3 : Int) (σ : MS) (Q : MQ9) : Prop := WP 8 0 43 79 [(0, vr l0), (1, vi l1), (2, vr l2), (3, vi l3)] [] σ Q
def Marks_putEntry_127 (l0 : Nat) (l2 : Nat) (l4 : Int) (σ : MS) (Q : MQ9) : Prop := WP 8 0 43 127 [(0, vr l0), (2, vr l2), (4, vi l4)] [] σ Q
def Marks_putEntry_144 (l0 : Nat) (l2 : Nat) (l3 : Int) (l4 : Int) (σ : MS) (Q : MQ9) : Prop := WP 8 0 43 144 [(0, vr l0), (2, vr l2), (3, vi l3), (4, vi l4)] [] σ Q
def Marks_putEntry_184 (l0 : Nat) (l2 : Nat) (l3 : Int) (l4 : Int) (σ : MS) (Q : MQ9) : Prop := WP 8 0 43 184 [(0, vr l0), (2, vr l2), (3, vi l3), (4, vi l4)] [] σ Q
def Marks_putEntry_200 (l0 : Nat) (l2 : Nat) (l4 : Int) (s0 : Int) (σ : MS) (Q : MQ9) : Prop := WP 8 0 43 200 [(0, vr l0), (2, vr l2), (4, vi l4)] [vi s0] σ Q
def Marks_putEntry_287 (l0 : Nat) (l2 : Nat) (l3 : Int) (σ : MS) (Q : MQ9) : Prop := WP 8 0 43 287 [(0, vr l0), (2, vr l2), (3, vi l3)] [] σ Q
def Proof_forget (l0 : Nat) (σ : MS) (Q : MQ9) : Prop := WP 7 0 44 0 [(0, vr l0)] [] σ Q
def Proof_forget_35 (l0 : Nat) (l1 : Int) (σ : MS) (Q : MQ9) : Prop := WP 7 0 44 35 [(0, vr l0), (1, vi l1)] [] σ Q
def Proof_copy (l0 : Nat) (l1 : Nat) (σ : MS) (Q : MQ9) : Prop := WP 7 0 45 0 [(0, vr l0), (1, vr l1)] [] σ Q
def Proof_lineCount (l0 : Nat) (σ : MS) (Q : MQ9) : Prop := WP 7 0 46 0 [(0, vr l0)] [] σ Q
def Proof_tally (l0 : Nat) (l1 : Int) (σ : MS) (Q : MQ9) : Prop := WP 6 0 47 0 [(0, vr l0), (1, vi l1)] [] σ Q
def Proof_linesOf (l0 : Nat) (l1 : Int) (σ : MS) (Q : MQ9) : Prop := WP 7 0 48 0 [(0, vr l0), (1, vi l1)] [] σ Q
def Proof_linesOf_33 (l0 : Nat) (l1 : Int) (s0 : Int) (σ : MS) (Q : MQ9) : Prop := WP 7 0 48 33 [(0, vr l0), (1, vi l1)] [vw s0] σ Q
def Proof_lengthOf (l0 : Nat) (l1 : Int) (σ : MS) (Q : MQ9) : Prop := WP 6 0 49 0 [(0, vr l0), (1, vi l1)] [] σ Q
def Proof_takeTallies (l0 : Nat) (l1 : Nat) (l2 : Int) (l3 : Int) (l4 : Int) (σ : MS) (Q : MQ9) : Prop := WP 7 0 50 0 [(0, vr l0), (1, vr l1), (2, vi l2), (3, vi l3), (4, vi l4)] [] σ Q
def Proof_showHead (l0 : Nat) (l1 : Nat) (l2 : Int) (l3 : Int) (l4 : Int) (σ : MS) (Q : MQ9) : Prop := WP 9 0 51 0 [(0, vr l0), (1, vr l1), (2, vi l2), (3, vi l3), (4, vi l4)] [] σ Q
def Proof_showHead_7 (l0 : Nat) (l1 : Nat) (l2 : Int) (l3 : Int) (l4 : Int) (σ : MS) (Q : MQ9) : Prop := WP 9 0 51 7 [(0, vr l0), (1, vr l1), (2, vi l2), (3, vi l3), (4, vi l4)] [] σ Q
def Proof_showHead_16 (l0 : Nat) (l1 : Nat) (l3 : Int) (l4 : Int) (σ : MS) (Q : MQ9) : Prop := WP 9 0 51 16 [(0, vr l0), (1, vr l1), (3, vi l3), (4, vi l4)] [] σ Q
def Proof_showHead_22 (l0 : Nat) (l1 : Nat) (l3 : Int) (l4 : Int) (l5 : Int) (l6 : Int) (σ : MS) (Q : MQ9) : Prop := WP 9 0 51 22 [(0, vr l0), (1, vr l1), (3, vi l3), (4, vi l4), (5, vi l5), (6, vi l6)] [] σ Q
def Proof_showHead_64 (l0 : Nat) (l1 : Nat) (l3 : Int) (l4 : Int) (l5 : Int) (l6 : Int) (σ : MS) (Q : MQ9) : Prop := WP 9 0 51 64 [(0, vr l0), (1, vr l1), (3, vi l3), (4, vi l4), (5, vi l5), (6, vi l6)] [] σ Q
def Proof_showHead_153 (l0 : Nat) (l4 : Int) (l6 : Int) (σ : MS) (Q : MQ9) : Prop := WP 9 0 51 153 [(0, vr l0), (4, vi l4), (6, vw l6)] [] σ Q
def Proof_showHead_189 (l0 : Nat) (σ : MS) (Q : MQ9) : Prop := WP 9 0 51 189 [(0, vr l0)] [] σ Q
def Proof_showHead_211 (l0 : Nat) (σ : MS) (Q : MQ9) : Prop := WP 9 0 51 211 [(0, vr l0)] [] σ Q
def Proof_showHead_216 (l0 : Nat) (σ : MS) (Q : MQ9) : Prop := WP 9 0 51 216 [(0, vr l0)] [] σ Q
def Proof_showHead_221 (σ : MS) (Q : MQ9) : Prop := WP 9 0 51 221 [] [] σ Q
def Proof_showPage (l0 : Nat) (l2 : Int) (l3 : Int) (σ : MS) (Q : MQ9) : Prop := WP 10 0 52 0 [(0, vr l0), (1, vr 128), (2, vi l2), (3, vi l3)] [] σ Q
def Proof_showPage_24 (l0 : Nat) (l3 : Int) (l4 : Int) (l5 : Int) (l6 : Int) (σ : MS) (Q : MQ9) : Prop := WP 10 0 52 24 [(0, vr l0), (1, vr 128), (3, vi l3), (4, vw l4), (5, vw l5), (6, vi l6)] [] σ Q
def Proof_showPage_62 (l0 : Nat) (l3 : Int) (l4 : Int) (l5 : Int) (l6 : Int) (σ : MS) (Q : MQ9) : Prop := WP 10 0 52 62 [(0, vr l0), (1, vr 128), (3, vi l3), (4, vw l4), (5, vw l5), (6, vi l6)] [] σ Q
def Proof_showPage_83 (l0 : Nat) (l3 : Int) (l4 : Int) (l5 : Int) (l6 : Int) (l7 : Int) (l8 : Int) (σ : MS) (Q : MQ9) : Prop := WP 10 0 52 83 [(0, vr l0), (1, vr 128), (3, vi l3), (4, vw l4), (5, vw l5), (6, vi l6), (7, vw l7), (8, vi l8)] [] σ Q
def Proof_showPage_139 (l0 : Nat) (l3 : Int) (l4 : Int) (l5 : Int) (l6 : Int) (l7 : Int) (σ : MS) (Q : MQ9) : Prop := WP 10 0 52 139 [(0, vr l0), (1, vr 128), (3, vi l3), (4, vw l4), (5, vw l5), (6, vi l6), (7, vw l7)] [] σ Q
def Proof_showNotes (l0 : Nat) (l2 : Int) (l3 : Int) (l4 : Int) (σ : MS) (Q : MQ9) : Prop := WP 9 0 53 0 [(0, vr l0), (1, vr 128), (2, vi l2), (3, vi l3), (4, vi l4)] [] σ Q
def Proof_showNotes_4 (l0 : Nat) (l2 : Int) (l3 : Int) (l4 : Int) (l5 : Int) (σ : MS) (Q : MQ9) : Prop := WP 9 0 53 4 [(0, vr l0), (1, vr 128), (2, vi l2), (3, vi l3), (4, vi l4), (5, vi l5)] [] σ Q
def Proof_showNotes_51 (l0 : Nat) (l5 : Int) (l6 : Int) (σ : MS) (Q : MQ9) : Prop := WP 9 0 53 51 [(0, vr l0), (1, vr 128), (5, vi l5), (6, vi l6)] [] σ Q
def Proof_showNotes_79 (l0 : Nat) (l5 : Int) (l6 : Int) (l7 : Int) (σ : MS) (Q : MQ9) : Prop := WP 9 0 53 79 [(0, vr l0), (1, vr 128), (5, vi l5), (6, vi l6), (7, vi l7)] [] σ Q
def Proof_showNotes_114 (l0 : Nat) (l5 : Int) (l6 : Int) (σ : MS) (Q : MQ9) : Prop := WP 9 0 53 114 [(0, vr l0), (1, vr 128), (5, vi l5), (6, vi l6)] [] σ Q
def Proof_showMade (l0 : Nat) (l2 : Int) (σ : MS) (Q : MQ9) : Prop := WP 8 0 54 0 [(0, vr l0), (1, vr 128), (2, vi l2)] [] σ Q
def Proof_closeLine (l0 : Nat) (l1 : Int) (σ : MS) (Q : MQ9) : Prop := WP 7 0 55 0 [(0, vr l0), (1, vi l1)] [] σ Q
def Proof_closeLine_17 (l0 : Nat) (l1 : Int) (l2 : Int) (l3 : Int) (σ : MS) (Q : MQ9) : Prop := WP 7 0 55 17 [(0, vr l0), (1, vi l1), (2, vw l2), (3, vi l3)] [] σ Q
def Proof_sameLine (l0 : Nat) (l1 : Int) (l2 : Nat) (l3 : Int) (σ : MS) (Q : MQ9) : Prop := WP 7 0 56 0 [(0, vr l0), (1, vi l1), (2, vr l2), (3, vi l3)] [] σ Q
def Proof_firstChange (l0 : Nat) (l1 : Nat) (σ : MS) (Q : MQ9) : Prop := WP 8 0 57 0 [(0, vr l0), (1, vr l1)] [] σ Q
def Proof_firstChange_20 (l0 : Nat) (l1 : Nat) (l2 : Int) (l3 : Int) (σ : MS) (Q : MQ9) : Prop := WP 8 0 57 20 [(0, vr l0), (1, vr l1), (2, vw l2), (3, vi l3)] [] σ Q
def Proof_common (l0 : Nat) (l1 : Nat) (σ : MS) (Q : MQ9) : Prop := WP 8 0 58 0 [(0, vr l0), (1, vr l1)] [] σ Q
def Proof_common_19 (l0 : Nat) (l1 : Nat) (l2 : Int) (l3 : Int) (l4 : Int) (σ : MS) (Q : MQ9) : Prop := WP 8 0 58 19 [(0, vr l0), (1, vr l1), (2, vw l2), (3, vw l3), (4, vi l4)] [] σ Q
def Proof_common_49 (l0 : Nat) (l1 : Nat) (l2 : Int) (l3 : Int) (l4 : Int) (σ : MS) (Q : MQ9) : Prop := WP 8 0 58 49 [(0, vr l0), (1, vr l1), (2, vw l2), (3, vw l3), (4, vi l4)] [] σ Q
def Proof_common_52 (l0 : Nat) (l1 : Nat) (l2 : Int) (l3 : Int) (l4 : Int) (l5 : Int) (σ : MS) (Q : MQ9) : Prop := WP 8 0 58 52 [(0, vr l0), (1, vr l1), (2, vw l2), (3, vw l3), (4, vi l4), (5, vi l5)] [] σ Q
def Proof_common_96 (l0 : Nat) (l1 : Nat) (l2 : Int) (l3 : Int) (l4 : Int) (l5 : Int) (σ : MS) (Q : MQ9) : Prop := WP 8 0 58 96 [(0, vr l0), (1, vr l1), (2, vw l2), (3, vw l3), (4, vi l4), (5, vi l5)] [] σ Q
def Proof_common_124 (l0 : Nat) (l1 : Nat) (l2 : Int) (l4 : Int) (l5 : Int) (l6 : Int) (σ : MS) (Q : MQ9) : Prop := WP 8 0 58 124 [(0, vr l0), (1, vr l1), (2, vw l2), (4, vi l4), (5, vi l5), (6, vi l6)] [] σ Q
def Proof_common_139 (l0 : Nat) (l1 : Nat) (l2 : Int) (l4 : Int) (l5 : Int) (l6 : Int) (l7 : Int) (l8 : Int) (σ : MS) (Q : MQ9) : Prop := WP 8 0 58 139 [(0, vr l0), (1, vr l1), (2, vw l2), (4, vi l4), (5, vi l5), (6, vi l6), (7, vw l7), (8, vi l8)] [] σ Q
def Proof_common_212 (l0 : Nat) (l1 : Nat) (l2 : Int) (l4 : Int) (l5 : Int) (l6 : Int) (l8 : Int) (l9 : Int) (s0 : Nat) (s1 : Int) (s2 : Int) (σ : MS) (Q : MQ9) : Prop := WP 8 0 58 212 [(0, vr l0), (1, vr l1), (2, vw l2), (4, vi l4), (5, vi l5), (6, vi l6), (8, vi l8), (9, vw l9)] [vi s2, vi s1, vr s0] σ Q
def Purse_open (σ : MS) (Q : MQ9) : Prop := WP 6 0 59 0 [(0, vr 22)] [] σ Q
def Purse_pay (l1 : Int) (σ : MS) (Q : MQ9) : Prop := WP 6 0 60 0 [(0, vr 22), (1, vi l1)] [] σ Q
def Purse_spend (l1 : Int) (σ : MS) (Q : MQ9) : Prop := WP 6 0 61 0 [(0, vr 22), (1, vi l1)] [] σ Q
def Purse_spend_22 (σ : MS) (Q : MQ9) : Prop := WP 6 0 61 22 [(0, vr 22)] [] σ Q
def Purse_fail (l1 : Int) (σ : MS) (Q : MQ9) : Prop := WP 6 0 62 0 [(0, vr 22), (1, vi l1)] [] σ Q
def Row_pack (l0 : Nat) (l1 : Nat) (l2 : Int) (l3 : Int) (l4 : Int) (σ : MS) (Q : MQ9) : Prop := WP 6 0 63 0 [(0, vr l0), (1, vr l1), (2, vi l2), (3, vi l3), (4, vi l4)] [] σ Q
def Row_pack_12 (l0 : Nat) (l1 : Nat) (l3 : Int) (l4 : Int) (l5 : Int) (l6 : Int) (l7 : Int) (σ : MS) (Q : MQ9) : Prop := WP 6 0 63 12 [(0, vr l0), (1, vr l1), (3, vi l3), (4, vi l4), (5, vw l5), (6, vw l6), (7, vi l7)] [] σ Q
def Row_pack_42 (l0 : Nat) (l1 : Nat) (l3 : Int) (l4 : Int) (l5 : Int) (l6 : Int) (l7 : Int) (l8 : Int) (s0 : Int) (σ : MS) (Q : MQ9) : Prop := WP 6 0 63 42 [(0, vr l0), (1, vr l1), (3, vi l3), (4, vi l4), (5, vw l5), (6, vw l6), (7, vi l7), (8, vw l8)] [vw s0] σ Q
def Row_pack_69 (l0 : Nat) (l1 : Nat) (l3 : Int) (l4 : Int) (l5 : Int) (l7 : Int) (l8 : Int) (l9 : Int) (σ : MS) (Q : MQ9) : Prop := WP 6 0 63 69 [(0, vr l0), (1, vr l1), (3, vi l3), (4, vi l4), (5, vw l5), (7, vi l7), (8, vw l8), (9, vw l9)] [] σ Q
def Row_pack_83 (l0 : Nat) (l1 : Nat) (l3 : Int) (l4 : Int) (l5 : Int) (l7 : Int) (l9 : Int) (σ : MS) (Q : MQ9) : Prop := WP 6 0 63 83 [(0, vr l0), (1, vr l1), (3, vi l3), (4, vi l4), (5, vw l5), (7, vi l7), (9, vw l9)] [] σ Q
def Row_putNumber (l0 : Nat) (l1 : Int) (l2 : Int) (σ : MS) (Q : MQ9) : Prop := WP 7 0 64 0 [(0, vr l0), (1, vi l1), (2, vi l2)] [] σ Q
def Row_putNumber_26 (l0 : Nat) (l1 : Int) (l2 : Int) (σ : MS) (Q : MQ9) : Prop := WP 7 0 64 26 [(0, vr l0), (1, vi l1), (2, vi l2)] [] σ Q
def Row_putNumber_53 (l0 : Nat) (l1 : Int) (l2 : Int) (σ : MS) (Q : MQ9) : Prop := WP 7 0 64 53 [(0, vr l0), (1, vi l1), (2, vi l2)] [] σ Q
def Row_putNumber_71 (l0 : Nat) (l1 : Int) (l2 : Int) (σ : MS) (Q : MQ9) : Prop := WP 7 0 64 71 [(0, vr l0), (1, vi l1), (2, vi l2)] [] σ Q
def Row_putNumber_85 (s0 : Nat) (s1 : Int) (s2 : Int) (σ : MS) (Q : MQ9) : Prop := WP 7 0 64 85 [] [vw s2, vi s1, vr s0] σ Q
def Row_putRoman (l0 : Nat) (l1 : Int) (l2 : Int) (σ : MS) (Q : MQ9) : Prop := WP 6 0 65 0 [(0, vr l0), (1, vi l1), (2, vi l2)] [] σ Q
def Row_putRoman_5 (l0 : Nat) (l2 : Int) (l3 : Int) (l4 : Int) (σ : MS) (Q : MQ9) : Prop := WP 6 0 65 5 [(0, vr l0), (2, vi l2), (3, vi l3), (4, vi l4)] [] σ Q
def Row_putRoman_45 (l0 : Nat) (l2 : Int) (l3 : Int) (l4 : Int) (l5 : Int) (s0 : Int) (σ : MS) (Q : MQ9) : Prop := WP 6 0 65 45 [(0, vr l0), (2, vi l2), (3, vi l3), (4, vi l4), (5, vi l5)] [vi s0] σ Q
def Row_putRoman_50 (l0 : Nat) (l2 : Int) (l3 : Int) (l4 : Int) (l5 : Int) (l6 : Int) (l7 : Int) (σ : MS) (Q : MQ9) : Prop := WP 6 0 65 50 [(0, vr l0), (2, vi l2), (3, vi l3), (4, vi l4), (5, vi l5), (6, vi l6), (7, vi l7)] [] σ Q
def Row_putRoman_79 (l0 : Nat) (l2 : Int) (l3 : Int) (l4 : Int) (l5 : Int) (l6 : Int) (l7 : Int) (l8 : Int) (σ : MS) (Q : MQ9) : Prop := WP 6 0 65 79 [(0, vr l0), (2, vi l2), (3, vi l3), (4, vi l4), (5, vi l5), (6, vi l6), (7, vi l7), (8, vi l8)] [] σ Q
def Row_putRoman_115 (l0 : Nat) (l2 : Int) (l3 : Int) (l4 : Int) (l5 : Int) (l6 : Int) (l7 : Int) (σ : MS) (Q : MQ9) : Prop := WP 6 0 65 115 [(0, vr l0), (2, vi l2), (3, vi l3), (4, vi l4), (5, vi l5), (6, vi l6), (7, vi l7)] [] σ Q
def Row_putRoman_121 (l0 : Nat) (l2 : Int) (l3 : Int) (l4 : Int) (σ : MS) (Q : MQ9) : Prop := WP 6 0 65 121 [(0, vr l0), (2, vi l2), (3, vi l3), (4, vi l4)] [] σ Q
def Row_putLettered (l0 : Nat) (l1 : Int) (σ : MS) (Q : MQ9) : Prop := WP 6 0 66 0 [(0, vr l0), (1, vi l1)] [] σ Q
def Row_putLettered_13 (l0 : Nat) (l2 : Int) (l4 : Int) (l6 : Int) (σ : MS) (Q : MQ9) : Prop := WP 6 0 66 13 [(0, vr l0), (2, vl l2), (4, vl l4), (6, vi l6)] [] σ Q
def Row_putLettered_45 (l0 : Nat) (l2 : Int) (l4 : Int) (σ : MS) (Q : MQ9) : Prop := WP 6 0 66 45 [(0, vr l0), (2, vl l2), (4, vl l4)] [] σ Q
def Row_putLettered_52 (l0 : Nat) (l4 : Int) (l6 : Int) (σ : MS) (Q : MQ9) : Prop := WP 6 0 66 52 [(0, vr l0), (4, vl l4), (6, vl l6)] [] σ Q
def Row_putDigits (l0 : Nat) (l1 : Int) (l2 : Int) (σ : MS) (Q : MQ9) : Prop := WP 6 0 67 0 [(0, vr l0), (1, vi l1), (2, vi l2)] [] σ Q
def Row_putDigits_18 (l0 : Nat) (l2 : Int) (l3 : Int) (σ : MS) (Q : MQ9) : Prop := WP 6 0 67 18 [(0, vr l0), (2, vi l2), (3, vl l3)] [] σ Q
def Row_putDigits_24 (l0 : Nat) (l2 : Int) (l3 : Int) (l5 : Int) (l7 : Int) (σ : MS) (Q : MQ9) : Prop := WP 6 0 67 24 [(0, vr l0), (2, vi l2), (3, vl l3), (5, vl l5), (7, vi l7)] [] σ Q
def Row_putDigits_54 (l0 : Nat) (l2 : Int) (l3 : Int) (l5 : Int) (σ : MS) (Q : MQ9) : Prop := WP 6 0 67 54 [(0, vr l0), (2, vi l2), (3, vl l3), (5, vl l5)] [] σ Q
def Row_putDigits_95 (l0 : Nat) (l2 : Int) (l3 : Int) (l5 : Int) (s0 : Nat) (s1 : Int) (σ : MS) (Q : MQ9) : Prop := WP 6 0 67 95 [(0, vr l0), (2, vi l2), (3, vl l3), (5, vl l5)] [vi s1, vr s0] σ Q
def Rules_told (l1 : Int) (σ : MS) (Q : MQ9) : Prop := WP 6 0 68 0 [(0, vr 23), (1, vi l1)] [] σ Q
def Rules_nameIndex (l0 : Nat) (l1 : Nat) (l2 : Int) (l3 : Int) (σ : MS) (Q : MQ9) : Prop := WP 6 0 69 0 [(0, vr l0), (1, vr l1), (2, vi l2), (3, vi l3)] [] σ Q
def Rules_nameIndex_12 (l0 : Nat) (l1 : Nat) (l2 : Int) (l3 : Int) (l4 : Int) (l5 : Int) (l6 : Int) (l7 : Int) (σ : MS) (Q : MQ9) : Prop := WP 6 0 69 12 [(0, vr l0), (1, vr l1), (2, vi l2), (3, vi l3), (4, vi l4), (5, vi l5), (6, vw l6), (7, vi l7)] [] σ Q
def Rules_nameIndex_55 (l0 : Nat) (l1 : Nat) (l2 : Int) (l3 : Int) (l4 : Int) (l7 : Int) (σ : MS) (Q : MQ9) : Prop := WP 6 0 69 55 [(0, vr l0), (1, vr l1), (2, vi l2), (3, vi l3), (4, vi l4), (7, vi l7)] [] σ Q
def Rules_nameIndex_97 (l0 : Nat) (l1 : Nat) (l2 : Int) (l3 : Int) (l4 : Int) (l5 : Int) (l7 : Int) (σ : MS) (Q : MQ9) : Prop := WP 6 0 69 97 [(0, vr l0), (1, vr l1), (2, vi l2), (3, vi l3), (4, vi l4), (5, vi l5), (7, vi l7)] [] σ Q
def Rules_nameIndex_100 (l0 : Nat) (l1 : Nat) (l2 : Int) (l3 : Int) (l4 : Int) (l5 : Int) (l6 : Int) (l7 : Int) (σ : MS) (Q : MQ9) : Prop := WP 6 0 69 100 [(0, vr l0), (1, vr l1), (2, vi l2), (3, vi l3), (4, vi l4), (5, vi l5), (6, vw l6), (7, vi l7)] [] σ Q
def Rules_follow (l1 : Nat) (l2 : Int) (l3 : Int) (σ : MS) (Q : MQ9) : Prop := WP 9 0 70 0 [(0, vr 23), (1, vr l1), (2, vi l2), (3, vi l3)] [] σ Q
def Rules_follow_3 (l1 : Nat) (l2 : Int) (l3 : Int) (l4 : Int) (σ : MS) (Q : MQ9) : Prop := WP 9 0 70 3 [(0, vr 23), (1, vr l1), (2, vi l2), (3, vi l3), (4, vi l4)] [] σ Q
def Rules_follow_26 (l1 : Nat) (l2 : Int) (l3 : Int) (l4 : Int) (σ : MS) (Q : MQ9) : Prop := WP 9 0 70 26 [(0, vr 23), (1, vr l1), (2, vi l2), (3, vi l3), (4, vi l4)] [] σ Q
def Rules_follow_48 (l1 : Nat) (l3 : Int) (l4 : Int) (l5 : Int) (s0 : Int) (σ : MS) (Q : MQ9) : Prop := WP 9 0 70 48 [(0, vr 23), (1, vr l1), (3, vi l3), (4, vi l4), (5, vw l5)] [vw s0] σ Q
def Rules_follow_69 (l1 : Nat) (l3 : Int) (l4 : Int) (l5 : Int) (s0 : Int) (s1 : Int) (σ : MS) (Q : MQ9) : Prop := WP 9 0 70 69 [(0, vr 23), (1, vr l1), (3, vi l3), (4, vi l4), (5, vw l5)] [vw s1, vw s0] σ Q
def Rules_follow_72 (l1 : Nat) (l3 : Int) (l4 : Int) (l5 : Int) (σ : MS) (Q : MQ9) : Prop := WP 9 0 70 72 [(0, vr 23), (1, vr l1), (3, vi l3), (4, vi l4), (5, vw l5)] [] σ Q
def Rules_follow_80 (l1 : Nat) (l3 : Int) (l4 : Int) (l5 : Int) (σ : MS) (Q : MQ9) : Prop := WP 9 0 70 80 [(0, vr 23), (1, vr l1), (3, vi l3), (4, vi l4), (5, vw l5)] [] σ Q
def Rules_define (l1 : Nat) (l2 : Int) (l3 : Int) (σ : MS) (Q : MQ9) : Prop := WP 7 0 71 0 [(0, vr 23), (1, vr l1), (2, vi l2), (3, vi l3)] [] σ Q
def Rules_define_3 (l1 : Nat) (l2 : Int) (l3 : Int) (l4 : Int) (σ : MS) (Q : MQ9) : Prop := WP 7 0 71 3 [(0, vr 23), (1, vr l1), (2, vi l2), (3, vi l3), (4, vi l4)] [] σ Q
def Rules_define_27 (l1 : Nat) (l2 : Int) (l3 : Int) (l4 : Int) (σ : MS) (Q : MQ9) : Prop := WP 7 0 71 27 [(0, vr 23), (1, vr l1), (2, vi l2), (3, vi l3), (4, vi l4)] [] σ Q
def Rules_define_113 (l1 : Nat) (l2 : Int) (l3 : Int) (l4 : Int) (l5 : Int) (σ : MS) (Q : MQ9) : Prop := WP 7 0 71 113 [(0, vr 23), (1, vr l1), (2, vi l2), (3, vi l3), (4, vi l4), (5, vi l5)] [] σ Q
def Rules_define_117 (l1 : Nat) (l2 : Int) (l3 : Int) (l4 : Int) (l5 : Int) (σ : MS) (Q : MQ9) : Prop := WP 7 0 71 117 [(0, vr 23), (1, vr l1), (2, vi l2), (3, vi l3), (4, vi l4), (5, vi l5)] [] σ Q
def Rules_define_118 (l1 : Nat) (l2 : Int) (l3 : Int) (l4 : Int) (l5 : Int) (s0 : Int) (σ : MS) (Q : MQ9) : Prop := WP 7 0 71 118 [(0, vr 23), (1, vr l1), (2, vi l2), (3, vi l3), (4, vi l4), (5, vi l5)] [vw s0] σ Q
def Rules_define_133 (l1 : Nat) (l2 : Int) (l3 : Int) (l4 : Int) (l5 : Int) (σ : MS) (Q : MQ9) : Prop := WP 7 0 71 133 [(0, vr 23), (1, vr l1), (2, vi l2), (3, vi l3), (4, vi l4), (5, vi l5)] [] σ Q
def Rules_define_173 (l1 : Nat) (l2 : Int) (l3 : Int) (l4 : Int) (l5 : Int) (σ : MS) (Q : MQ9) : Prop := WP 7 0 71 173 [(0, vr 23), (1, vr l1), (2, vi l2), (3, vi l3), (4, vi l4), (5, vi l5)] [] σ Q
def Rules_define_219 (l1 : Nat) (l3 : Int) (l5 : Int) (l7 : Int) (σ : MS) (Q : MQ9) : Prop := WP 7 0 71 219 [(0, vr 23), (1, vr l1), (3, vi l3), (5, vi l5), (7, vw l7)] [] σ Q
def Rules_change (l1 : Nat) (l2 : Int) (l3 : Int) (σ : MS) (Q : MQ9) : Prop := WP 7 0 72 0 [(0, vr 23), (1, vr l1), (2, vi l2), (3, vi l3)] [] σ Q
def Rules_change_3 (l1 : Nat) (l2 : Int) (l3 : Int) (l4 : Int) (σ : MS) (Q : MQ9) : Prop := WP 7 0 72 3 [(0, vr 23), (1, vr l1), (2, vi l2), (3, vi l3), (4, vi l4)] [] σ Q
def Rules_change_26 (l1 : Nat) (l2 : Int) (l3 : Int) (l4 : Int) (σ : MS) (Q : MQ9) : Prop := WP 7 0 72 26 [(0, vr 23), (1, vr l1), (2, vi l2), (3, vi l3), (4, vi l4)] [] σ Q
def Rules_change_73 (l1 : Nat) (l3 : Int) (l4 : Int) (l5 : Int) (σ : MS) (Q : MQ9) : Prop := WP 7 0 72 73 [(0, vr 23), (1, vr l1), (3, vi l3), (4, vi l4), (5, vw l5)] [] σ Q
def Rules_change_74 (l1 : Nat) (l3 : Int) (l4 : Int) (l5 : Int) (s0 : Int) (σ : MS) (Q : MQ9) : Prop := WP 7 0 72 74 [(0, vr 23), (1, vr l1), (3, vi l3), (4, vi l4), (5, vw l5)] [vw s0] σ Q
def Rules_change_85 (l1 : Nat) (l3 : Int) (l5 : Int) (l7 : Int) (l8 : Int) (l9 : Int) (σ : MS) (Q : MQ9) : Prop := WP 7 0 72 85 [(0, vr 23), (1, vr l1), (3, vi l3), (5, vw l5), (7, vw l7), (8, vi l8), (9, vi l9)] [] σ Q
def Rules_change_130 (l5 : Int) (l7 : Int) (l8 : Int) (σ : MS) (Q : MQ9) : Prop := WP 7 0 72 130 [(0, vr 23), (5, vw l5), (7, vw l7), (8, vi l8)] [] σ Q
def Rules_change_157 (σ : MS) (Q : MQ9) : Prop := WP 7 0 72 157 [(0, vr 23)] [] σ Q
def Rules_takeWords (l1 : Nat) (l2 : Int) (l3 : Int) (l4 : Int) (σ : MS) (Q : MQ9) : Prop := WP 8 0 73 0 [(0, vr 23), (1, vr l1), (2, vi l2), (3, vi l3), (4, vi l4)] [] σ Q
def Rules_takeWords_6 (l1 : Nat) (l2 : Int) (l3 : Int) (l4 : Int) (l5 : Int) (l6 : Int) (σ : MS) (Q : MQ9) : Prop := WP 8 0 73 6 [(0, vr 23), (1, vr l1), (2, vi l2), (3, vi l3), (4, vi l4), (5, vi l5), (6, vi l6)] [] σ Q
def Rules_takeWords_29 (l1 : Nat) (l2 : Int) (l3 : Int) (l4 : Int) (l5 : Int) (l6 : Int) (σ : MS) (Q : MQ9) : Prop := WP 8 0 73 29 [(0, vr 23), (1, vr l1), (2, vi l2), (3, vi l3), (4, vi l4), (5, vi l5), (6, vi l6)] [] σ Q
def Rules_takeWords_59 (l1 : Nat) (l2 : Int) (l3 : Int) (l4 : Int) (l6 : Int) (σ : MS) (Q : MQ9) : Prop := WP 8 0 73 59 [(0, vr 23), (1, vr l1), (2, vi l2), (3, vi l3), (4, vi l4), (6, vi l6)] [] σ Q
def Rules_takeWords_67 (l1 : Nat) (l2 : Int) (l3 : Int) (l4 : Int) (l6 : Int) (σ : MS) (Q : MQ9) : Prop := WP 8 0 73 67 [(0, vr 23), (1, vr l1), (2, vi l2), (3, vi l3), (4, vi l4), (6, vi l6)] [] σ Q
def Rules_takeWords_73 (l1 : Nat) (l2 : Int) (l3 : Int) (l4 : Int) (l5 : Int) (l6 : Int) (σ : MS) (Q : MQ9) : Prop := WP 8 0 73 73 [(0, vr 23), (1, vr l1), (2, vi l2), (3, vi l3), (4, vi l4), (5, vi l5), (6, vi l6)] [] σ Q
def Rules_takeWords_95 (l1 : Nat) (l2 : Int) (l3 : Int) (l4 : Int) (s0 : Nat) (σ : MS) (Q : MQ9) : Prop := WP 8 0 73 95 [(0, vr 23), (1, vr l1), (2, vi l2), (3, vi l3), (4, vi l4)] [vr s0] σ Q
def Rules_takeWords_109 (l1 : Nat) (l2 : Int) (l3 : Int) (l6 : Nat) (s0 : Int) (σ : MS) (Q : MQ9) : Prop := WP 8 0 73 109 [(0, vr 23), (1, vr l1), (2, vi l2), (3, vi l3), (6, vr l6)] [vw s0] σ Q
def Rules_takeWords_117 (l1 : Nat) (l3 : Int) (l5 : Int) (l6 : Nat) (l7 : Int) (l8 : Int) (σ : MS) (Q : MQ9) : Prop := WP 8 0 73 117 [(0, vr 23), (1, vr l1), (3, vi l3), (5, vi l5), (6, vr l6), (7, vw l7), (8, vi l8)] [] σ Q
def Rules_takeWords_140 (l1 : Nat) (l3 : Int) (l5 : Int) (l6 : Nat) (l7 : Int) (l8 : Int) (σ : MS) (Q : MQ9) : Prop := WP 8 0 73 140 [(0, vr 23), (1, vr l1), (3, vi l3), (5, vi l5), (6, vr l6), (7, vw l7), (8, vi l8)] [] σ Q
def Rules_takeWords_159 (l1 : Nat) (l3 : Int) (l5 : Int) (l6 : Nat) (l7 : Int) (l8 : Int) (σ : MS) (Q : MQ9) : Prop := WP 8 0 73 159 [(0, vr 23), (1, vr l1), (3, vi l3), (5, vi l5), (6, vr l6), (7, vw l7), (8, vi l8)] [] σ Q
def Rules_takeWords_192 (l1 : Nat) (l3 : Int) (l5 : Int) (l6 : Nat) (l7 : Int) (l8 : Int) (σ : MS) (Q : MQ9) : Prop := WP 8 0 73 192 [(0, vr 23), (1, vr l1), (3, vi l3), (5, vi l5), (6, vr l6), (7, vw l7), (8, vi l8)] [] σ Q
def Rules_isPattern (l0 : Nat) (l1 : Int) (l2 : Int) (σ : MS) (Q : MQ9) : Prop := WP 7 0 74 0 [(0, vr l0), (1, vi l1), (2, vi l2)] [] σ Q
def Rules_isPattern_5 (l0 : Nat) (l1 : Int) (l2 : Int) (l3 : Int) (l4 : Int) (σ : MS) (Q : MQ9) : Prop := WP 7 0 74 5 [(0, vr l0), (1, vi l1), (2, vi l2), (3, vw l3), (4, vi l4)] [] σ Q
def Rules_isPattern_31 (l0 : Nat) (l1 : Int) (l2 : Int) (l4 : Int) (l5 : Int) (σ : MS) (Q : MQ9) : Prop := WP 7 0 74 31 [(0, vr l0), (1, vi l1), (2, vi l2), (4, vi l4), (5, vw l5)] [] σ Q
def Rules_isPattern_36 (l0 : Nat) (l1 : Int) (l2 : Int) (l4 : Int) (l5 : Int) (s0 : Int) (σ : MS) (Q : MQ9) : Prop := WP 7 0 74 36 [(0, vr l0), (1, vi l1), (2, vi l2), (4, vi l4), (5, vw l5)] [vw s0] σ Q
def Rules_isPattern_62 (l0 : Nat) (l1 : Int) (l2 : Int) (l3 : Int) (l4 : Int) (l5 : Int) (σ : MS) (Q : MQ9) : Prop := WP 7 0 74 62 [(0, vr l0), (1, vi l1), (2, vi l2), (3, vw l3), (4, vi l4), (5, vw l5)] [] σ Q
def Rules_isPattern_92 (l0 : Nat) (l1 : Int) (l2 : Int) (l3 : Int) (l4 : Int) (σ : MS) (Q : MQ9) : Prop := WP 7 0 74 92 [(0, vr l0), (1, vi l1), (2, vi l2), (3, vw l3), (4, vi l4)] [] σ Q
def Rules_isException (l0 : Nat) (l1 : Int) (l2 : Int) (σ : MS) (Q : MQ9) : Prop := WP 7 0 75 0 [(0, vr l0), (1, vi l1), (2, vi l2)] [] σ Q
def Rules_isException_2 (l0 : Nat) (l1 : Int) (l2 : Int) (l3 : Int) (σ : MS) (Q : MQ9) : Prop := WP 7 0 75 2 [(0, vr l0), (1, vi l1), (2, vi l2), (3, vi l3)] [] σ Q
def Rules_isException_22 (l0 : Nat) (l1 : Int) (l2 : Int) (l3 : Int) (s0 : Int) (σ : MS) (Q : MQ9) : Prop := WP 7 0 75 22 [(0, vr l0), (1, vi l1), (2, vi l2), (3, vi l3)] [vw s0] σ Q
def Rules_isException_42 (l0 : Nat) (l1 : Int) (l2 : Int) (l3 : Int) (l4 : Int) (σ : MS) (Q : MQ9) : Prop := WP 7 0 75 42 [(0, vr l0), (1, vi l1), (2, vi l2), (3, vi l3), (4, vw l4)] [] σ Q
def Rules_isException_73 (l0 : Nat) (l1 : Int) (l2 : Int) (l3 : Int) (σ : MS) (Q : MQ9) : Prop := WP 7 0 75 73 [(0, vr l0), (1, vi l1), (2, vi l2), (3, vi l3)] [] σ Q
def Setter_open (σ : MS) (Q : MQ9) : Prop := WP 8 0 76 0 [(0, vr 127)] [] σ Q
def Setter_open_25 (l1 : Int) (l2 : Int) (σ : MS) (Q : MQ9) : Prop := WP 8 0 76 25 [(0, vr 127), (1, vi l1), (2, vi l2)] [] σ Q
def Setter_open_54 (l1 : Int) (l2 : Int) (s0 : Int) (σ : MS) (Q : MQ9) : Prop := WP 8 0 76 54 [(0, vr 127), (1, vi l1), (2, vi l2)] [vw s0] σ Q
def Setter_open_72 (l1 : Int) (l2 : Int) (l3 : Int) (σ : MS) (Q : MQ9) : Prop := WP 8 0 76 72 [(0, vr 127), (1, vi l1), (2, vi l2), (3, vw l3)] [] σ Q
def Setter_open_83 (l1 : Int) (l2 : Int) (s0 : Int) (σ : MS) (Q : MQ9) : Prop := WP 8 0 76 83 [(0, vr 127), (1, vi l1), (2, vi l2)] [vi s0] σ Q
def Setter_open_120 (l1 : Int) (l2 : Int) (σ : MS) (Q : MQ9) : Prop := WP 8 0 76 120 [(0, vr 127), (1, vi l1), (2, vi l2)] [] σ Q
def Setter_forget (σ : MS) (Q : MQ9) : Prop := WP 8 0 77 0 [(0, vr 127)] [] σ Q
def Setter_show (l1 : Nat) (σ : MS) (Q : MQ9) : Prop := WP 11 0 78 0 [(0, vr 127), (1, vr l1)] [] σ Q
def Setter_show_2 (l1 : Nat) (l2 : Int) (σ : MS) (Q : MQ9) : Prop := WP 11 0 78 2 [(0, vr 127), (1, vr l1), (2, vi l2)] [] σ Q
def Setter_show_68 (l1 : Nat) (l2 : Int) (σ : MS) (Q : MQ9) : Prop := WP 11 0 78 68 [(0, vr 127), (1, vr l1), (2, vi l2)] [] σ Q
def Setter_kindOf (l1 : Int) (l2 : Int) (σ : MS) (Q : MQ9) : Prop := WP 7 0 79 0 [(0, vr 127), (1, vi l1), (2, vi l2)] [] σ Q
def Setter_kindOf_2 (l1 : Int) (l2 : Int) (l3 : Int) (σ : MS) (Q : MQ9) : Prop := WP 7 0 79 2 [(0, vr 127), (1, vi l1), (2, vi l2), (3, vi l3)] [] σ Q
def Setter_kindOf_26 (l1 : Int) (l2 : Int) (l3 : Int) (σ : MS) (Q : MQ9) : Prop := WP 7 0 79 26 [(0, vr 127), (1, vi l1), (2, vi l2), (3, vi l3)] [] σ Q
def Setter_kindOf_62 (l1 : Int) (l2 : Int) (l3 : Int) (l4 : Int) (l5 : Int) (σ : MS) (Q : MQ9) : Prop := WP 7 0 79 62 [(0, vr 127), (1, vi l1), (2, vi l2), (3, vi l3), (4, vi l4), (5, vw l5)] [] σ Q
def Setter_kindOf_76 (l1 : Int) (l2 : Int) (l3 : Int) (l4 : Int) (l5 : Int) (σ : MS) (Q : MQ9) : Prop := WP 7 0 79 76 [(0, vr 127), (1, vi l1), (2, vi l2), (3, vi l3), (4, vi l4), (5, vw l5)] [] σ Q
def Setter_kindOf_90 (l1 : Int) (l2 : Int) (l3 : Int) (l4 : Int) (l5 : Int) (σ : MS) (Q : MQ9) : Prop := WP 7 0 79 90 [(0, vr 127), (1, vi l1), (2, vi l2), (3, vi l3), (4, vi l4), (5, vw l5)] [] σ Q
def Setter_kindOf_114 (l2 : Int) (l3 : Int) (l4 : Int) (l5 : Int) (σ : MS) (Q : MQ9) : Prop := WP 7 0 79 114 [(0, vr 127), (2, vi l2), (3, vi l3), (4, vi l4), (5, vw l5)] [] σ Q
def Setter_kindOf_128 (l2 : Int) (l3 : Int) (l4 : Int) (σ : MS) (Q : MQ9) : Prop := WP 7 0 79 128 [(0, vr 127), (2, vi l2), (3, vi l3), (4, vi l4)] [] σ Q
def Setter_kindOf_154 (l4 : Int) (σ : MS) (Q : MQ9) : Prop := WP 7 0 79 154 [(4, vi l4)] [] σ Q
def Setter_kindOf_155 (l4 : Int) (s0 : Int) (σ : MS) (Q : MQ9) : Prop := WP 7 0 79 155 [(4, vi l4)] [vw s0] σ Q
def Setter_levelOf (l1 : Int) (l2 : Int) (σ : MS) (Q : MQ9) : Prop := WP 6 0 80 0 [(0, vr 127), (1, vi l1), (2, vi l2)] [] σ Q
def Setter_levelOf_2 (l1 : Int) (l2 : Int) (l3 : Int) (σ : MS) (Q : MQ9) : Prop := WP 6 0 80 2 [(0, vr 127), (1, vi l1), (2, vi l2), (3, vi l3)] [] σ Q
def Setter_levelOf_35 (l1 : Int) (l2 : Int) (l3 : Int) (σ : MS) (Q : MQ9) : Prop := WP 6 0 80 35 [(0, vr 127), (1, vi l1), (2, vi l2), (3, vi l3)] [] σ Q
def Setter_levelOf_71 (l3 : Int) (σ : MS) (Q : MQ9) : Prop := WP 6 0 80 71 [(3, vi l3)] [] σ Q
def Setter_levelOf_72 (l3 : Int) (s0 : Int) (σ : MS) (Q : MQ9) : Prop := WP 6 0 80 72 [(3, vi l3)] [vw s0] σ Q
def Setter_round (l1 : Int) (σ : MS) (Q : MQ9) : Prop := WP 302 0 81 0 [(0, vr 127), (1, vi l1)] [] σ Q
def Setter_round_31 (l2 : Int) (l4 : Int) (σ : MS) (Q : MQ9) : Prop := WP 302 0 81 31 [(0, vr 127), (2, vw l2), (4, vw l4)] [] σ Q
def Setter_round_90 (l2 : Int) (l3 : Int) (l4 : Int) (l5 : Int) (σ : MS) (Q : MQ9) : Prop := WP 302 0 81 90 [(0, vr 127), (2, vw l2), (3, vw l3), (4, vw l4), (5, vw l5)] [] σ Q
def Setter_round_302 (l3 : Int) (l5 : Int) (s1 : Int) (σ : MS) (Q : MQ9) : Prop := WP 302 0 81 302 [(0, vr 127), (3, vw l3), (5, vw l5)] [vw s1, vr 127] σ Q
def Setter_round_341 (l3 : Int) (l5 : Int) (σ : MS) (Q : MQ9) : Prop := WP 302 0 81 341 [(0, vr 127), (3, vw l3), (5, vw l5)] [] σ Q
def Setter_round_352 (l3 : Int) (s0 : Int) (σ : MS) (Q : MQ9) : Prop := WP 302 0 81 352 [(0, vr 127), (3, vw l3)] [vw s0] σ Q
def Setter_closeRound (σ : MS) (Q : MQ9) : Prop := WP 9 0 82 0 [(0, vr 127)] [] σ Q
def Setter_openRound (l1 : Int) (σ : MS) (Q : MQ9) : Prop := WP 8 0 83 0 [(0, vr 127), (1, vi l1)] [] σ Q
def Setter_openRound_61 (l3 : Int) (σ : MS) (Q : MQ9) : Prop := WP 8 0 83 61 [(0, vr 127), (3, vi l3)] [] σ Q
def Setter_pageRoom (σ : MS) (Q : MQ9) : Prop := WP 7 0 84 0 [(0, vr 127)] [] σ Q
def Setter_blockEnd (l1 : Int) (σ : MS) (Q : MQ9) : Prop := WP 6 0 85 0 [(0, vr 127), (1, vi l1)] [] σ Q
def Setter_blockEnd_29 (l2 : Int) (l3 : Int) (σ : MS) (Q : MQ9) : Prop := WP 6 0 85 29 [(0, vr 127), (2, vw l2), (3, vi l3)] [] σ Q
def Setter_blockEnd_34 (l2 : Int) (l3 : Int) (s0 : Int) (σ : MS) (Q : MQ9) : Prop := WP 6 0 85 34 [(0, vr 127), (2, vw l2), (3, vi l3)] [vw s0] σ Q
def Setter_blockEnd_36 (l2 : Int) (l3 : Int) (l4 : Int) (σ : MS) (Q : MQ9) : Prop := WP 6 0 85 36 [(0, vr 127), (2, vw l2), (3, vi l3), (4, vw l4)] [] σ Q
def Setter_blockEnd_64 (l2 : Int) (l3 : Int) (l4 : Int) (σ : MS) (Q : MQ9) : Prop := WP 6 0 85 64 [(0, vr 127), (2, vw l2), (3, vi l3), (4, vw l4)] [] σ Q
def Setter_blockEnd_102 (l2 : Int) (l3 : Int) (l4 : Int) (σ : MS) (Q : MQ9) : Prop := WP 6 0 85 102 [(0, vr 127), (2, vw l2), (3, vi l3), (4, vw l4)] [] σ Q
def Setter_gather (l1 : Int) (l2 : Int) (l3 : Int) (σ : MS) (Q : MQ9) : Prop := WP 6 0 86 0 [(0, vr 127), (1, vi l1), (2, vi l2), (3, vi l3)] [] σ Q
def Setter_gather_10 (l1 : Int) (l2 : Int) (l3 : Int) (l4 : Int) (σ : MS) (Q : MQ9) : Prop := WP 6 0 86 10 [(0, vr 127), (1, vi l1), (2, vi l2), (3, vi l3), (4, vi l4)] [] σ Q
def Setter_gather_31 (l1 : Int) (l2 : Int) (l3 : Int) (l4 : Int) (σ : MS) (Q : MQ9) : Prop := WP 6 0 86 31 [(0, vr 127), (1, vi l1), (2, vi l2), (3, vi l3), (4, vi l4)] [] σ Q
def Setter_gather_59 (l1 : Int) (l2 : Int) (l3 : Int) (l4 : Int) (s2 : Int) (s3 : Int) (σ : MS) (Q : MQ9) : Prop := WP 6 0 86 59 [(0, vr 127), (1, vi l1), (2, vi l2), (3, vi l3), (4, vi l4)] [vi s3, vw s2, vr 3, vr 206] σ Q
def Setter_heading (l1 : Int) (σ : MS) (Q : MQ9) : Prop := WP 301 0 87 0 [(0, vr 127), (1, vi l1)] [] σ Q
def Setter_heading_24 (l1 : Int) (σ : MS) (Q : MQ9) : Prop := WP 301 0 87 24 [(0, vr 127), (1, vi l1)] [] σ Q
def Setter_heading_67 (l1 : Int) (l2 : Int) (l3 : Int) (σ : MS) (Q : MQ9) : Prop := WP 301 0 87 67 [(0, vr 127), (1, vi l1), (2, vw l2), (3, vi l3)] [] σ Q
def Setter_heading_95 (l1 : Int) (l2 : Int) (σ : MS) (Q : MQ9) : Prop := WP 301 0 87 95 [(0, vr 127), (1, vi l1), (2, vw l2)] [] σ Q
def Setter_heading_97 (l1 : Int) (l2 : Int) (l3 : Int) (σ : MS) (Q : MQ9) : Prop := WP 301 0 87 97 [(0, vr 127), (1, vi l1), (2, vw l2), (3, vi l3)] [] σ Q
def Setter_heading_121 (l1 : Int) (l2 : Int) (l3 : Int) (s0 : Nat) (s1 : Int) (s2 : Int) (σ : MS) (Q : MQ9) : Prop := WP 301 0 87 121 [(0, vr 127), (1, vi l1), (2, vw l2), (3, vi l3)] [vw s2, vw s1, vr s0] σ Q
def Setter_heading_124 (l1 : Int) (l2 : Int) (l3 : Int) (σ : MS) (Q : MQ9) : Prop := WP 301 0 87 124 [(0, vr 127), (1, vi l1), (2, vw l2), (3, vi l3)] [] σ Q
def Setter_heading_141 (l1 : Int) (l2 : Int) (l3 : Int) (σ : MS) (Q : MQ9) : Prop := WP 301 0 87 141 [(0, vr 127), (1, vi l1), (2, vw l2), (3, vi l3)] [] σ Q
def Setter_heading_155 (l1 : Int) (l2 : Int) (σ : MS) (Q : MQ9) : Prop := WP 301 0 87 155 [(0, vr 127), (1, vi l1), (2, vw l2)] [] σ Q
def Setter_heading_169 (l1 : Int) (l2 : Int) (σ : MS) (Q : MQ9) : Prop := WP 301 0 87 169 [(0, vr 127), (1, vi l1), (2, vw l2)] [] σ Q
def Setter_heading_180 (l2 : Int) (σ : MS) (Q : MQ9) : Prop := WP 301 0 87 180 [(0, vr 127), (2, vw l2)] [] σ Q
def Setter_heading_223 (l2 : Int) (l3 : Int) (l4 : Int) (σ : MS) (Q : MQ9) : Prop := WP 301 0 87 223 [(0, vr 127), (2, vw l2), (3, vw l3), (4, vw l4)] [] σ Q
def Setter_heading_255 (l2 : Int) (l3 : Int) (l4 : Int) (σ : MS) (Q : MQ9) : Prop := WP 301 0 87 255 [(0, vr 127), (2, vw l2), (3, vw l3), (4, vw l4), (5, vr 87)] [] σ Q
def Setter_heading_265 (l2 : Int) (l3 : Int) (l4 : Int) (σ : MS) (Q : MQ9) : Prop := WP 301 0 87 265 [(0, vr 127), (2, vw l2), (3, vw l3), (4, vw l4), (5, vr 87)] [] σ Q
def Setter_heading_276 (l3 : Int) (l4 : Int) (σ : MS) (Q : MQ9) : Prop := WP 301 0 87 276 [(0, vr 127), (3, vw l3), (4, vw l4), (5, vr 87)] [] σ Q
def Setter_heading_279 (l3 : Int) (l4 : Int) (l6 : Int) (σ : MS) (Q : MQ9) : Prop := WP 301 0 87 279 [(0, vr 127), (3, vw l3), (4, vw l4), (5, vr 87), (6, vi l6)] [] σ Q
def Setter_heading_321 (l3 : Int) (l4 : Int) (l6 : Int) (s1 : Int) (s2 : Int) (σ : MS) (Q : MQ9) : Prop := WP 301 0 87 321 [(0, vr 127), (3, vw l3), (4, vw l4), (5, vr 87), (6, vi l6)] [vw s2, vi s1, vr 87] σ Q
def Setter_heading_324 (l3 : Int) (l4 : Int) (l6 : Int) (σ : MS) (Q : MQ9) : Prop := WP 301 0 87 324 [(0, vr 127), (3, vw l3), (4, vw l4), (5, vr 87), (6, vi l6)] [] σ Q
def Setter_heading_337 (l3 : Int) (l4 : Int) (σ : MS) (Q : MQ9) : Prop := WP 301 0 87 337 [(0, vr 127), (3, vw l3), (4, vw l4), (5, vr 87)] [] σ Q
def Setter_heading_387 (l3 : Int) (l4 : Int) (σ : MS) (Q : MQ9) : Prop := WP 301 0 87 387 [(0, vr 127), (3, vw l3), (4, vw l4), (5, vr 87)] [] σ Q
def Setter_heading_407 (l3 : Int) (l4 : Int) (σ : MS) (Q : MQ9) : Prop := WP 301 0 87 407 [(0, vr 127), (3, vw l3), (4, vw l4), (5, vr 87)] [] σ Q
def Setter_heading_431 (l3 : Int) (l4 : Int) (l6 : Int) (σ : MS) (Q : MQ9) : Prop := WP 301 0 87 431 [(0, vr 127), (3, vw l3), (4, vw l4), (5, vr 87), (6, vw l6)] [] σ Q
def Setter_heading_443 (l3 : Int) (l4 : Int) (l6 : Int) (σ : MS) (Q : MQ9) : Prop := WP 301 0 87 443 [(0, vr 127), (3, vw l3), (4, vw l4), (5, vr 87), (6, vw l6)] [] σ Q
def Setter_heading_453 (l3 : Int) (l4 : Int) (l6 : Int) (σ : MS) (Q : MQ9) : Prop := WP 301 0 87 453 [(0, vr 127), (3, vw l3), (4, vw l4), (6, vw l6)] [] σ Q
def Setter_heading_462 (σ : MS) (Q : MQ9) : Prop := WP 301 0 87 462 [] [] σ Q
def Setter_beginParagraph (l1 : Int) (l2 : Int) (σ : MS) (Q : MQ9) : Prop := WP 8 0 88 0 [(0, vr 127), (1, vi l1), (2, vi l2)] [] σ Q
def Setter_beginItem (l1 : Int) (l2 : Int) (l3 : Int) (σ : MS) (Q : MQ9) : Prop := WP 8 0 89 0 [(0, vr 127), (1, vi l1), (2, vi l2), (3, vi l3)] [] σ Q
def Setter_beginItem_13 (l1 : Int) (l2 : Int) (l3 : Int) (l4 : Int) (l5 : Int) (σ : MS) (Q : MQ9) : Prop := WP 8 0 89 13 [(0, vr 127), (1, vi l1), (2, vi l2), (3, vi l3), (4, vw l4), (5, vi l5)] [] σ Q
def Setter_beginItem_44 (l1 : Int) (l2 : Int) (l3 : Int) (l4 : Int) (l5 : Int) (σ : MS) (Q : MQ9) : Prop := WP 8 0 89 44 [(0, vr 127), (1, vi l1), (2, vi l2), (3, vi l3), (4, vw l4), (5, vi l5)] [] σ Q
def Setter_beginItem_56 (l1 : Int) (l2 : Int) (l4 : Int) (l5 : Int) (s0 : Int) (σ : MS) (Q : MQ9) : Prop := WP 8 0 89 56 [(0, vr 127), (1, vi l1), (2, vi l2), (4, vw l4), (5, vi l5)] [vi s0] σ Q
def Setter_beginItem_58 (l1 : Int) (l2 : Int) (l4 : Int) (l5 : Int) (l6 : Int) (σ : MS) (Q : MQ9) : Prop := WP 8 0 89 58 [(0, vr 127), (1, vi l1), (2, vi l2), (4, vw l4), (5, vi l5), (6, vi l6)] [] σ Q
def Setter_beginItem_175 (l1 : Int) (l2 : Int) (l5 : Int) (s0 : Nat) (s1 : Int) (s2 : Int) (σ : MS) (Q : MQ9) : Prop := WP 8 0 89 175 [(0, vr 127), (1, vi l1), (2, vi l2), (5, vi l5)] [vw s2, vw s1, vr s0] σ Q
def Setter_beginItem_226 (l1 : Int) (l2 : Int) (l5 : Int) (s1 : Int) (σ : MS) (Q : MQ9) : Prop := WP 8 0 89 226 [(0, vr 127), (1, vi l1), (2, vi l2), (5, vi l5)] [vw s1, vr 118] σ Q
def Setter_beginItem_262 (l1 : Int) (l2 : Int) (l5 : Int) (s1 : Int) (σ : MS) (Q : MQ9) : Prop := WP 8 0 89 262 [(0, vr 127), (1, vi l1), (2, vi l2), (5, vi l5)] [vw s1, vr 118] σ Q
def Setter_beginItem_265 (l1 : Int) (l2 : Int) (l5 : Int) (σ : MS) (Q : MQ9) : Prop := WP 8 0 89 265 [(0, vr 127), (1, vi l1), (2, vi l2), (5, vi l5)] [] σ Q
def Setter_fillText (l1 : Int) (l2 : Int) (σ : MS) (Q : MQ9) : Prop := WP 301 0 90 0 [(0, vr 127), (1, vi l1), (2, vi l2)] [] σ Q
def Setter_fillText_80 (l1 : Int) (l2 : Int) (l3 : Int) (l4 : Int) (σ : MS) (Q : MQ9) : Prop := WP 301 0 90 80 [(0, vr 127), (1, vi l1), (2, vi l2), (3, vw l3), (4, vw l4)] [] σ Q
def Setter_fillText_85 (l1 : Int) (l2 : Int) (l3 : Int) (l4 : Int) (s0 : Int) (σ : MS) (Q : MQ9) : Prop := WP 301 0 90 85 [(0, vr 127), (1, vi l1), (2, vi l2), (3, vw l3), (4, vw l4)] [vw s0] σ Q
def Setter_fillText_112 (l1 : Int) (l2 : Int) (l3 : Int) (l4 : Int) (σ : MS) (Q : MQ9) : Prop := WP 301 0 90 112 [(0, vr 127), (1, vi l1), (2, vi l2), (3, vw l3), (4, vw l4)] [] σ Q
def Setter_fillText_134 (l1 : Int) (l3 : Int) (l4 : Int) (σ : MS) (Q : MQ9) : Prop := WP 301 0 90 134 [(0, vr 127), (1, vi l1), (3, vw l3), (4, vw l4), (6, vr 87)] [] σ Q
def Setter_fillText_170 (l1 : Int) (l3 : Int) (l4 : Int) (s1 : Int) (σ : MS) (Q : MQ9) : Prop := WP 301 0 90 170 [(0, vr 127), (1, vi l1), (3, vw l3), (4, vw l4), (6, vr 87)] [vw s1, vr 111] σ Q
def Setter_fillText_218 (l1 : Int) (l3 : Int) (l4 : Int) (σ : MS) (Q : MQ9) : Prop := WP 301 0 90 218 [(0, vr 127), (1, vi l1), (3, vw l3), (4, vw l4), (6, vr 87)] [] σ Q
def Setter_fillText_219 (l1 : Int) (l3 : Int) (l4 : Int) (s0 : Int) (σ : MS) (Q : MQ9) : Prop := WP 301 0 90 219 [(0, vr 127), (1, vi l1), (3, vw l3), (4, vw l4), (6, vr 87)] [vw s0] σ Q
def Setter_fillText_257 (l1 : Int) (l3 : Int) (l4 : Int) (σ : MS) (Q : MQ9) : Prop := WP 301 0 90 257 [(0, vr 127), (1, vi l1), (3, vw l3), (4, vw l4), (6, vr 87)] [] σ Q
def Setter_fillText_305 (l8 : Int) (l9 : Int) (σ : MS) (Q : MQ9) : Prop := WP 301 0 90 305 [(0, vr 127), (8, vw l8), (9, vi l9)] [] σ Q
def Setter_printNotes (σ : MS) (Q : MQ9) : Prop := WP 11 0 91 0 [(0, vr 127)] [] σ Q
def Setter_printNotes_10 (l2 : Int) (σ : MS) (Q : MQ9) : Prop := WP 11 0 91 10 [(0, vr 127), (1, vr 104), (2, vi l2)] [] σ Q
def Setter_printNotes_46 (l2 : Int) (s1 : Int) (σ : MS) (Q : MQ9) : Prop := WP 11 0 91 46 [(0, vr 127), (1, vr 104), (2, vi l2)] [vw s1, vr 111] σ Q
def Setter_printLines (l1 : Nat) (l2 : Int) (l3 : Int) (σ : MS) (Q : MQ9) : Prop := WP 9 0 92 0 [(0, vr 127), (1, vr l1), (2, vi l2), (3, vi l3)] [] σ Q
def Setter_printLines_67 (l1 : Nat) (l2 : Int) (l3 : Int) (l4 : Int) (σ : MS) (Q : MQ9) : Prop := WP 9 0 92 67 [(0, vr 127), (1, vr l1), (2, vi l2), (3, vi l3), (4, vw l4), (5, vr 130)] [] σ Q
def Setter_printLines_70 (l1 : Nat) (l2 : Int) (l3 : Int) (l4 : Int) (l6 : Int) (σ : MS) (Q : MQ9) : Prop := WP 9 0 92 70 [(0, vr 127), (1, vr l1), (2, vi l2), (3, vi l3), (4, vw l4), (5, vr 130), (6, vi l6)] [] σ Q
def Setter_printLines_117 (l1 : Nat) (l2 : Int) (l3 : Int) (l4 : Int) (l6 : Int) (σ : MS) (Q : MQ9) : Prop := WP 9 0 92 117 [(0, vr 127), (1, vr l1), (2, vi l2), (3, vi l3), (4, vw l4), (5, vr 130), (6, vi l6)] [] σ Q
def Setter_printLines_121 (l1 : Nat) (l2 : Int) (l3 : Int) (l4 : Int) (l6 : Int) (σ : MS) (Q : MQ9) : Prop := WP 9 0 92 121 [(0, vr 127), (1, vr l1), (2, vi l2), (3, vi l3), (4, vw l4), (5, vr 130), (6, vi l6)] [] σ Q
def Setter_printLines_122 (l1 : Nat) (l2 : Int) (l3 : Int) (l4 : Int) (l6 : Int) (s0 : Int) (σ : MS) (Q : MQ9) : Prop := WP 9 0 92 122 [(0, vr 127), (1, vr l1), (2, vi l2), (3, vi l3), (4, vw l4), (5, vr 130), (6, vi l6)] [vw s0] σ Q
def Setter_printLines_136 (l1 : Nat) (l2 : Int) (l3 : Int) (l4 : Int) (l6 : Int) (σ : MS) (Q : MQ9) : Prop := WP 9 0 92 136 [(0, vr 127), (1, vr l1), (2, vi l2), (3, vi l3), (4, vw l4), (5, vr 130), (6, vi l6)] [] σ Q
def Setter_printLines_141 (l1 : Nat) (l2 : Int) (l3 : Int) (l4 : Int) (l6 : Int) (s0 : Int) (σ : MS) (Q : MQ9) : Prop := WP 9 0 92 141 [(0, vr 127), (1, vr l1), (2, vi l2), (3, vi l3), (4, vw l4), (5, vr 130), (6, vi l6)] [vw s0] σ Q
def Setter_printLines_176 (l1 : Nat) (l2 : Int) (l3 : Int) (l4 : Int) (l6 : Int) (s1 : Int) (s2 : Int) (σ : MS) (Q : MQ9) : Prop := WP 9 0 92 176 [(0, vr 127), (1, vr l1), (2, vi l2), (3, vi l3), (4, vw l4), (5, vr 130), (6, vi l6)] [vw s2, vw s1, vr 128] σ Q
def Setter_lineOf (l1 : Int) (σ : MS) (Q : MQ9) : Prop := WP 6 0 93 0 [(0, vr 127), (1, vi l1)] [] σ Q
def Setter_lineOf_2 (l1 : Int) (l2 : Int) (σ : MS) (Q : MQ9) : Prop := WP 6 0 93 2 [(0, vr 127), (1, vi l1), (2, vi l2)] [] σ Q
def Setter_carry (l1 : Int) (l2 : Int) (l3 : Int) (σ : MS) (Q : MQ9) : Prop := WP 7 0 94 0 [(0, vr 127), (1, vi l1), (2, vi l2), (3, vi l3)] [] σ Q
def Setter_carry_12 (l1 : Int) (l3 : Int) (l4 : Int) (l5 : Int) (σ : MS) (Q : MQ9) : Prop := WP 7 0 94 12 [(0, vr 127), (1, vi l1), (3, vi l3), (4, vw l4), (5, vi l5)] [] σ Q
def Setter_carry_65 (l1 : Int) (l3 : Int) (l4 : Int) (l5 : Int) (s0 : Nat) (s1 : Int) (s2 : Int) (s4 : Int) (σ : MS) (Q : MQ9) : Prop := WP 7 0 94 65 [(0, vr 127), (1, vi l1), (3, vi l3), (4, vw l4), (5, vi l5)] [vw s4, vr 127, vi s2, vi s1, vr s0] σ Q
def Setter_carry_81 (l1 : Int) (l4 : Int) (l5 : Int) (σ : MS) (Q : MQ9) : Prop := WP 7 0 94 81 [(0, vr 127), (1, vi l1), (4, vw l4), (5, vi l5)] [] σ Q
def Setter_carry_134 (l1 : Int) (l4 : Int) (l5 : Int) (s0 : Nat) (s1 : Int) (s2 : Int) (s4 : Int) (σ : MS) (Q : MQ9) : Prop := WP 7 0 94 134 [(0, vr 127), (1, vi l1), (4, vw l4), (5, vi l5)] [vw s4, vr 127, vi s2, vi s1, vr s0] σ Q
def Setter_workTable (l1 : Int) (l2 : Int) (σ : MS) (Q : MQ9) : Prop := WP 301 0 95 0 [(0, vr 127), (1, vi l1), (2, vi l2)] [] σ Q
def Setter_workTable_9 (l1 : Int) (l2 : Int) (l3 : Int) (σ : MS) (Q : MQ9) : Prop := WP 301 0 95 9 [(0, vr 127), (1, vi l1), (2, vi l2), (3, vi l3)] [] σ Q
def Setter_workTable_63 (l1 : Int) (l2 : Int) (l3 : Int) (σ : MS) (Q : MQ9) : Prop := WP 301 0 95 63 [(0, vr 127), (1, vi l1), (2, vi l2), (3, vi l3)] [] σ Q
def Setter_workTable_66 (l1 : Int) (l2 : Int) (l3 : Int) (l4 : Int) (σ : MS) (Q : MQ9) : Prop := WP 301 0 95 66 [(0, vr 127), (1, vi l1), (2, vi l2), (3, vi l3), (4, vi l4)] [] σ Q
def Setter_workTable_163 (l1 : Int) (l2 : Int) (l3 : Int) (σ : MS) (Q : MQ9) : Prop := WP 301 0 95 163 [(0, vr 127), (1, vi l1), (2, vi l2), (3, vi l3)] [] σ Q
def Setter_raw (l1 : Int) (l2 : Int) (σ : MS) (Q : MQ9) : Prop := WP 8 0 96 0 [(0, vr 127), (1, vi l1), (2, vi l2)] [] σ Q
def Setter_raw_18 (l2 : Int) (l3 : Int) (σ : MS) (Q : MQ9) : Prop := WP 8 0 96 18 [(0, vr 127), (2, vi l2), (3, vi l3)] [] σ Q
def Setter_contents (σ : MS) (Q : MQ9) : Prop := WP 9 0 97 0 [(0, vr 127)] [] σ Q
def Setter_contents_49 (l1 : Int) (σ : MS) (Q : MQ9) : Prop := WP 9 0 97 49 [(0, vr 127), (1, vw l1), (2, vr 130)] [] σ Q
def Setter_contents_51 (l1 : Int) (l3 : Int) (σ : MS) (Q : MQ9) : Prop := WP 9 0 97 51 [(0, vr 127), (1, vw l1), (2, vr 130), (3, vi l3)] [] σ Q
def Setter_contents_72 (l1 : Int) (l3 : Int) (σ : MS) (Q : MQ9) : Prop := WP 9 0 97 72 [(0, vr 127), (1, vw l1), (2, vr 130), (3, vi l3)] [] σ Q
def Setter_contents_94 (l1 : Int) (l3 : Int) (σ : MS) (Q : MQ9) : Prop := WP 9 0 97 94 [(0, vr 127), (1, vw l1), (2, vr 130), (3, vi l3)] [] σ Q
def Setter_contents_121 (l1 : Int) (l3 : Int) (l4 : Int) (σ : MS) (Q : MQ9) : Prop := WP 9 0 97 121 [(0, vr 127), (1, vw l1), (2, vr 130), (3, vi l3), (4, vw l4)] [] σ Q
def Setter_contents_157 (l1 : Int) (l3 : Int) (l4 : Int) (σ : MS) (Q : MQ9) : Prop := WP 9 0 97 157 [(0, vr 127), (1, vw l1), (2, vr 130), (3, vi l3), (4, vw l4)] [] σ Q
def Setter_contents_179 (l1 : Int) (l3 : Int) (l4 : Int) (σ : MS) (Q : MQ9) : Prop := WP 9 0 97 179 [(0, vr 127), (1, vw l1), (2, vr 130), (3, vi l3), (4, vw l4)] [] σ Q
def Setter_contents_185 (l1 : Int) (l3 : Int) (l4 : Int) (σ : MS) (Q : MQ9) : Prop := WP 9 0 97 185 [(0, vr 127), (1, vw l1), (2, vr 130), (3, vi l3), (4, vw l4)] [] σ Q
def Setter_contents_214 (l1 : Int) (l3 : Int) (σ : MS) (Q : MQ9) : Prop := WP 9 0 97 214 [(0, vr 127), (1, vw l1), (2, vr 130), (3, vi l3)] [] σ Q
def Setter_contents_220 (l1 : Int) (l3 : Int) (σ : MS) (Q : MQ9) : Prop := WP 9 0 97 220 [(0, vr 127), (1, vw l1), (2, vr 130), (3, vi l3)] [] σ Q
def Setter_contents_236 (l1 : Int) (l3 : Int) (σ : MS) (Q : MQ9) : Prop := WP 9 0 97 236 [(0, vr 127), (1, vw l1), (2, vr 130), (3, vi l3)] [] σ Q
def Setter_contents_249 (l1 : Int) (l3 : Int) (σ : MS) (Q : MQ9) : Prop := WP 9 0 97 249 [(0, vr 127), (1, vw l1), (2, vr 130), (3, vi l3)] [] σ Q
def Setter_index (σ : MS) (Q : MQ9) : Prop := WP 11 0 98 0 [(0, vr 127)] [] σ Q
def Setter_index_37 (σ : MS) (Q : MQ9) : Prop := WP 11 0 98 37 [(0, vr 127)] [] σ Q
def Setter_index_39 (l1 : Int) (σ : MS) (Q : MQ9) : Prop := WP 11 0 98 39 [(0, vr 127), (1, vi l1)] [] σ Q
def Shelf_clear (l0 : Nat) (σ : MS) (Q : MQ9) : Prop := WP 6 0 99 0 [(0, vr l0)] [] σ Q
def Shelf_close (l0 : Nat) (σ : MS) (Q : MQ9) : Prop := WP 6 0 100 0 [(0, vr l0)] [] σ Q
def Shelf_rows (l0 : Nat) (σ : MS) (Q : MQ9) : Prop := WP 6 0 101 0 [(0, vr l0)] [] σ Q
def Shelf_copy (l0 : Nat) (l1 : Nat) (σ : MS) (Q : MQ9) : Prop := WP 6 0 102 0 [(0, vr l0), (1, vr l1)] [] σ Q
def Shelf_like (l0 : Nat) (l1 : Nat) (σ : MS) (Q : MQ9) : Prop := WP 6 0 103 0 [(0, vr l0), (1, vr l1)] [] σ Q
def Shelf_seek (l0 : Nat) (l1 : Nat) (l2 : Int) (l3 : Int) (σ : MS) (Q : MQ9) : Prop := WP 6 0 104 0 [(0, vr l0), (1, vr l1), (2, vi l2), (3, vi l3)] [] σ Q
def Shelf_seek_3 (l0 : Nat) (l1 : Nat) (l2 : Int) (l3 : Int) (l4 : Int) (σ : MS) (Q : MQ9) : Prop := WP 6 0 104 3 [(0, vr l0), (1, vr l1), (2, vi l2), (3, vi l3), (4, vi l4)] [] σ Q
def Shelf_seek_56 (l0 : Nat) (l1 : Nat) (l2 : Int) (l3 : Int) (l4 : Int) (σ : MS) (Q : MQ9) : Prop := WP 6 0 104 56 [(0, vr l0), (1, vr l1), (2, vi l2), (3, vi l3), (4, vi l4)] [] σ Q
def Tables_open (σ : MS) (Q : MQ9) : Prop := WP 7 0 105 0 [(0, vr 150)] [] σ Q
def Tables_open_21 (l1 : Int) (σ : MS) (Q : MQ9) : Prop := WP 7 0 105 21 [(0, vr 150), (1, vi l1)] [] σ Q
def Tables_part (l1 : Nat) (l2 : Int) (l3 : Int) (σ : MS) (Q : MQ9) : Prop := WP 7 0 106 0 [(0, vr 150), (1, vr l1), (2, vi l2), (3, vi l3)] [] σ Q
def Tables_part_22 (l1 : Nat) (l3 : Int) (l4 : Int) (l5 : Int) (l6 : Int) (l7 : Int) (σ : MS) (Q : MQ9) : Prop := WP 7 0 106 22 [(0, vr 150), (1, vr l1), (3, vi l3), (4, vi l4), (5, vi l5), (6, vw l6), (7, vi l7)] [] σ Q
def Tables_part_78 (l1 : Nat) (l3 : Int) (l4 : Int) (l5 : Int) (l6 : Int) (l7 : Int) (l8 : Int) (σ : MS) (Q : MQ9) : Prop := WP 7 0 106 78 [(0, vr 150), (1, vr l1), (3, vi l3), (4, vi l4), (5, vi l5), (6, vw l6), (7, vi l7), (8, vw l8)] [] σ Q
def Tables_part_94 (l1 : Nat) (l3 : Int) (l4 : Int) (l5 : Int) (l7 : Int) (l8 : Int) (σ : MS) (Q : MQ9) : Prop := WP 7 0 106 94 [(0, vr 150), (1, vr l1), (3, vi l3), (4, vi l4), (5, vi l5), (7, vi l7), (8, vw l8)] [] σ Q
def Tables_part_95 (l1 : Nat) (l3 : Int) (l4 : Int) (l5 : Int) (l7 : Int) (l8 : Int) (s0 : Int) (σ : MS) (Q : MQ9) : Prop := WP 7 0 106 95 [(0, vr 150), (1, vr l1), (3, vi l3), (4, vi l4), (5, vi l5), (7, vi l7), (8, vw l8)] [vw s0] σ Q
def Tables_part_126 (l1 : Nat) (l3 : Int) (l4 : Int) (l6 : Int) (l7 : Int) (l8 : Int) (s0 : Int) (σ : MS) (Q : MQ9) : Prop := WP 7 0 106 126 [(0, vr 150), (1, vr l1), (3, vi l3), (4, vi l4), (6, vw l6), (7, vi l7), (8, vw l8)] [vi s0] σ Q
def Tables_part_127 (l1 : Nat) (l3 : Int) (l4 : Int) (l6 : Int) (l7 : Int) (l8 : Int) (s0 : Int) (s1 : Int) (σ : MS) (Q : MQ9) : Prop := WP 7 0 106 127 [(0, vr 150), (1, vr l1), (3, vi l3), (4, vi l4), (6, vw l6), (7, vi l7), (8, vw l8)] [vw s1, vi s0] σ Q
def Tables_part_144 (l1 : Nat) (l3 : Int) (l4 : Int) (l5 : Int) (l6 : Int) (s0 : Int) (s1 : Int) (σ : MS) (Q : MQ9) : Prop := WP 7 0 106 144 [(0, vr 150), (1, vr l1), (3, vi l3), (4, vi l4), (5, vi l5), (6, vw l6)] [vw s1, vi s0] σ Q
def Tables_part_147 (l1 : Nat) (l3 : Int) (l4 : Int) (l5 : Int) (l6 : Int) (l7 : Int) (σ : MS) (Q : MQ9) : Prop := WP 7 0 106 147 [(0, vr 150), (1, vr l1), (3, vi l3), (4, vi l4), (5, vi l5), (6, vw l6), (7, vi l7)] [] σ Q
def Tables_part_175 (σ : MS) (Q : MQ9) : Prop := WP 7 0 106 175 [(0, vr 150)] [] σ Q
def Tables_takeAlignment (l1 : Nat) (σ : MS) (Q : MQ9) : Prop := WP 7 0 107 0 [(0, vr 150), (1, vr l1)] [] σ Q
def Tables_takeAlignment_2 (l1 : Nat) (l2 : Int) (σ : MS) (Q : MQ9) : Prop := WP 7 0 107 2 [(0, vr 150), (1, vr l1), (2, vi l2)] [] σ Q
def Tables_takeAlignment_49 (l1 : Nat) (l2 : Int) (σ : MS) (Q : MQ9) : Prop := WP 7 0 107 49 [(0, vr 150), (1, vr l1), (2, vi l2)] [] σ Q
def Tables_takeAlignment_106 (σ : MS) (Q : MQ9) : Prop := WP 7 0 107 106 [(0, vr 150)] [] σ Q
def Tables_alignOf (l0 : Nat) (l1 : Int) (l2 : Int) (σ : MS) (Q : MQ9) : Prop := WP 6 0 108 0 [(0, vr l0), (1, vi l1), (2, vi l2)] [] σ Q
def Tables_alignOf_5 (l0 : Nat) (l2 : Int) (l3 : Int) (l4 : Int) (σ : MS) (Q : MQ9) : Prop := WP 6 0 108 5 [(0, vr l0), (2, vi l2), (3, vw l3), (4, vi l4)] [] σ Q
def Tables_alignOf_54 (l0 : Nat) (l2 : Int) (l4 : Int) (l5 : Int) (σ : MS) (Q : MQ9) : Prop := WP 6 0 108 54 [(0, vr l0), (2, vi l2), (4, vi l4), (5, vw l5)] [] σ Q
def Tables_alignOf_57 (l0 : Nat) (l2 : Int) (l3 : Int) (l4 : Int) (σ : MS) (Q : MQ9) : Prop := WP 6 0 108 57 [(0, vr l0), (2, vi l2), (3, vw l3), (4, vi l4)] [] σ Q
def Tables_takeCell (l1 : Nat) (σ : MS) (Q : MQ9) : Prop := WP 7 0 109 0 [(0, vr 150), (1, vr l1)] [] σ Q
def Tables_takeCell_37 (l1 : Nat) (s0 : Int) (s1 : Int) (σ : MS) (Q : MQ9) : Prop := WP 7 0 109 37 [(0, vr 150), (1, vr l1)] [vw s1, vw s0] σ Q
def Tables_closeRow (σ : MS) (Q : MQ9) : Prop := WP 7 0 110 0 [(0, vr 150)] [] σ Q
def Tables_narrow (l1 : Int) (σ : MS) (Q : MQ9) : Prop := WP 6 0 111 0 [(0, vr 150), (1, vi l1)] [] σ Q
def Tables_narrow_11 (l1 : Int) (l2 : Int) (l3 : Int) (σ : MS) (Q : MQ9) : Prop := WP 6 0 111 11 [(0, vr 150), (1, vi l1), (2, vi l2), (3, vi l3)] [] σ Q
def Tables_narrow_36 (l1 : Int) (l2 : Int) (l3 : Int) (σ : MS) (Q : MQ9) : Prop := WP 6 0 111 36 [(0, vr 150), (1, vi l1), (2, vi l2), (3, vi l3)] [] σ Q
def Tables_narrow_51 (l1 : Int) (l2 : Int) (l3 : Int) (l4 : Int) (l5 : Int) (σ : MS) (Q : MQ9) : Prop := WP 6 0 111 51 [(0, vr 150), (1, vi l1), (2, vi l2), (3, vi l3), (4, vi l4), (5, vi l5)] [] σ Q
def Tables_narrow_84 (l1 : Int) (l2 : Int) (l3 : Int) (l5 : Int) (s0 : Int) (σ : MS) (Q : MQ9) : Prop := WP 6 0 111 84 [(0, vr 150), (1, vi l1), (2, vi l2), (3, vi l3), (5, vi l5)] [vi s0] σ Q
def Tables_print (l1 : Int) (σ : MS) (Q : MQ9) : Prop := WP 11 0 112 0 [(0, vr 150), (1, vi l1)] [] σ Q
def Tables_print_2 (l1 : Int) (l2 : Int) (σ : MS) (Q : MQ9) : Prop := WP 11 0 112 2 [(0, vr 150), (1, vi l1), (2, vi l2)] [] σ Q
def Tables_print_31 (l1 : Int) (l2 : Int) (s0 : Int) (σ : MS) (Q : MQ9) : Prop := WP 11 0 112 31 [(0, vr 150), (1, vi l1), (2, vi l2)] [vw s0] σ Q
def Tables_print_45 (l1 : Int) (l2 : Int) (l3 : Int) (l4 : Int) (l5 : Int) (σ : MS) (Q : MQ9) : Prop := WP 11 0 112 45 [(0, vr 150), (1, vi l1), (2, vi l2), (3, vw l3), (4, vw l4), (5, vi l5)] [] σ Q
def Tables_print_136 (l1 : Int) (l2 : Int) (l3 : Int) (l4 : Int) (l5 : Int) (σ : MS) (Q : MQ9) : Prop := WP 11 0 112 136 [(0, vr 150), (1, vi l1), (2, vi l2), (3, vw l3), (4, vw l4), (5, vi l5)] [] σ Q
def Tables_print_188 (l1 : Int) (l2 : Int) (l4 : Int) (l5 : Int) (σ : MS) (Q : MQ9) : Prop := WP 11 0 112 188 [(0, vr 150), (1, vi l1), (2, vi l2), (4, vw l4), (5, vi l5)] [] σ Q
def Tables_print_219 (l1 : Int) (l2 : Int) (l4 : Int) (l5 : Int) (s1 : Int) (σ : MS) (Q : MQ9) : Prop := WP 11 0 112 219 [(0, vr 150), (1, vi l1), (2, vi l2), (4, vw l4), (5, vi l5)] [vi s1, vr 128] σ Q
def Tables_print_224 (l1 : Int) (l2 : Int) (l4 : Int) (l5 : Int) (s1 : Int) (s2 : Int) (σ : MS) (Q : MQ9) : Prop := WP 11 0 112 224 [(0, vr 150), (1, vi l1), (2, vi l2), (4, vw l4), (5, vi l5)] [vw s2, vi s1, vr 128] σ Q
def Tables_print_252 (l1 : Int) (l2 : Int) (σ : MS) (Q : MQ9) : Prop := WP 11 0 112 252 [(0, vr 150), (1, vi l1), (2, vi l2)] [] σ Q
def Tables_printDashes (σ : MS) (Q : MQ9) : Prop := WP 6 0 113 0 [(0, vr 150)] [] σ Q
def Tables_printDashes_13 (l2 : Int) (σ : MS) (Q : MQ9) : Prop := WP 6 0 113 13 [(0, vr 150), (1, vr 130), (2, vi l2)] [] σ Q
def Tables_printDashes_43 (l2 : Int) (σ : MS) (Q : MQ9) : Prop := WP 6 0 113 43 [(0, vr 150), (1, vr 130), (2, vi l2)] [] σ Q
def Tables_printParts (l1 : Int) (σ : MS) (Q : MQ9) : Prop := WP 6 0 114 0 [(0, vr 150), (1, vi l1)] [] σ Q
def Tables_printParts_19 (l1 : Int) (l3 : Int) (l4 : Int) (σ : MS) (Q : MQ9) : Prop := WP 6 0 114 19 [(0, vr 150), (1, vi l1), (2, vr 130), (3, vw l3), (4, vi l4)] [] σ Q
def Tables_printParts_58 (l1 : Int) (l3 : Int) (l4 : Int) (l5 : Int) (s0 : Int) (σ : MS) (Q : MQ9) : Prop := WP 6 0 114 58 [(0, vr 150), (1, vi l1), (2, vr 130), (3, vw l3), (4, vi l4), (5, vi l5)] [vw s0] σ Q
def Tables_printParts_81 (l1 : Int) (l3 : Int) (l4 : Int) (l5 : Int) (l6 : Int) (s0 : Int) (σ : MS) (Q : MQ9) : Prop := WP 6 0 114 81 [(0, vr 150), (1, vi l1), (2, vr 130), (3, vw l3), (4, vi l4), (5, vi l5), (6, vw l6)] [vw s0] σ Q
def Tables_printParts_104 (l1 : Int) (l3 : Int) (l4 : Int) (l7 : Int) (s0 : Int) (σ : MS) (Q : MQ9) : Prop := WP 6 0 114 104 [(0, vr 150), (1, vi l1), (2, vr 130), (3, vw l3), (4, vi l4), (7, vw l7)] [vw s0] σ Q
def Tables_printParts_162 (l1 : Int) (l3 : Int) (l4 : Int) (l7 : Int) (l8 : Int) (l9 : Int) (s0 : Int) (σ : MS) (Q : MQ9) : Prop := WP 6 0 114 162 [(0, vr 150), (1, vi l1), (2, vr 130), (3, vw l3), (4, vi l4), (7, vw l7), (8, vw l8), (9, vw l9)] [vw s0] σ Q
def Tables_printParts_187 (l1 : Int) (l3 : Int) (l4 : Int) (l7 : Int) (l8 : Int) (l9 : Int) (l10 : Int) (σ : MS) (Q : MQ9) : Prop := WP 6 0 114 187 [(0, vr 150), (1, vi l1), (2, vr 130), (3, vw l3), (4, vi l4), (7, vw l7), (8, vw l8), (9, vw l9), (10, vw l10)] [] σ Q
def Tables_printParts_227 (l3 : Int) (σ : MS) (Q : MQ9) : Prop := WP 6 0 114 227 [(2, vr 130), (3, vw l3)] [] σ Q
def Texts_openRound (l1 : Nat) (l2 : Nat) (σ : MS) (Q : MQ9) : Prop := WP 7 0 115 0 [(0, vr 86), (1, vr l1), (2, vr l2)] [] σ Q
def Texts_openText (l1 : Int) (σ : MS) (Q : MQ9) : Prop := WP 7 0 116 0 [(0, vr 86), (1, vi l1)] [] σ Q
def Texts_beginWith (l1 : Nat) (σ : MS) (Q : MQ9) : Prop := WP 6 0 117 0 [(0, vr 86), (1, vr l1)] [] σ Q
def Texts_workAlone (l1 : Nat) (l2 : Nat) (σ : MS) (Q : MQ9) : Prop := WP 301 0 118 0 [(0, vr 86), (1, vr l1), (2, vr l2)] [] σ Q
def Texts_work (D : Nat) (l1 : Nat) (l2 : Int) (l3 : Int) (l4 : Int) (σ : MS) (Q : MQ9) : Prop := WP (D + 60) 0 119 0 [(0, vr 86), (1, vr l1), (2, vi l2), (3, vi l3), (4, vi l4)] [] σ Q
def Texts_work_8 (D : Nat) (l1 : Nat) (l3 : Int) (l4 : Int) (l5 : Int) (l6 : Int) (σ : MS) (Q : MQ9) : Prop := WP (D + 60) 0 119 8 [(0, vr 86), (1, vr l1), (3, vi l3), (4, vi l4), (5, vi l5), (6, vi l6)] [] σ Q
def Texts_work_136 (D : Nat) (l1 : Nat) (l3 : Int) (l4 : Int) (l5 : Int) (l6 : Int) (s1 : Int) (σ : MS) (Q : MQ9) : Prop := WP (D + 60) 0 119 136 [(0, vr 86), (1, vr l1), (3, vi l3), (4, vi l4), (5, vi l5), (6, vi l6)] [vw s1, vr 86] σ Q
def Texts_work_199 (D : Nat) (l1 : Nat) (l3 : Int) (l4 : Int) (l5 : Int) (l6 : Int) (σ : MS) (Q : MQ9) : Prop := WP (D + 60) 0 119 199 [(0, vr 86), (1, vr l1), (3, vi l3), (4, vi l4), (5, vi l5), (6, vi l6)] [] σ Q
def Texts_work_202 (D : Nat) (l1 : Nat) (l3 : Int) (l4 : Int) (l5 : Int) (l6 : Int) (σ : MS) (Q : MQ9) : Prop := WP (D + 60) 0 119 202 [(0, vr 86), (1, vr l1), (3, vi l3), (4, vi l4), (5, vi l5), (6, vi l6)] [] σ Q
def Texts_escape (D : Nat) (l1 : Nat) (l2 : Int) (l3 : Int) (l4 : Int) (σ : MS) (Q : MQ9) : Prop := WP (D + 60) 0 120 0 [(0, vr 86), (1, vr l1), (2, vi l2), (3, vi l3), (4, vi l4)] [] σ Q
def Texts_escape_13 (D : Nat) (l1 : Nat) (l2 : Int) (l3 : Int) (l4 : Int) (σ : MS) (Q : MQ9) : Prop := WP (D + 60) 0 120 13 [(0, vr 86), (1, vr l1), (2, vi l2), (3, vi l3), (4, vi l4)] [] σ Q
def Texts_escape_57 (D : Nat) (l2 : Int) (s1 : Int) (σ : MS) (Q : MQ9) : Prop := WP (D + 60) 0 120 57 [(0, vr 86), (2, vi l2)] [vw s1, vr 86] σ Q
def Texts_inside (D : Nat) (l1 : Nat) (l2 : Int) (l3 : Int) (l4 : Int) (σ : MS) (Q : MQ9) : Prop := WP (D + 60) 0 121 0 [(0, vr 86), (1, vr l1), (2, vi l2), (3, vi l3), (4, vi l4)] [] σ Q
def Texts_inside_16 (D : Nat) (l1 : Nat) (l2 : Int) (l3 : Int) (l4 : Int) (σ : MS) (Q : MQ9) : Prop := WP (D + 60) 0 121 16 [(0, vr 86), (1, vr l1), (2, vi l2), (3, vi l3), (4, vi l4)] [] σ Q
def Texts_call (D : Nat) (l1 : Nat) (l2 : Int) (l3 : Int) (l4 : Int) (σ : MS) (Q : MQ9) : Prop := WP (D + 60) 0 122 0 [(0, vr 86), (1, vr l1), (2, vi l2), (3, vi l3), (4, vi l4)] [] σ Q
def Texts_call_3 (D : Nat) (l1 : Nat) (l2 : Int) (l3 : Int) (l4 : Int) (l5 : Int) (σ : MS) (Q : MQ9) : Prop := WP (D + 60) 0 122 3 [(0, vr 86), (1, vr l1), (2, vi l2), (3, vi l3), (4, vi l4), (5, vi l5)] [] σ Q
def Texts_call_27 (D : Nat) (l1 : Nat) (l2 : Int) (l3 : Int) (l4 : Int) (l5 : Int) (σ : MS) (Q : MQ9) : Prop := WP (D + 60) 0 122 27 [(0, vr 86), (1, vr l1), (2, vi l2), (3, vi l3), (4, vi l4), (5, vi l5)] [] σ Q
def Texts_call_71 (D : Nat) (l1 : Nat) (l3 : Int) (l4 : Int) (l5 : Int) (l6 : Int) (s0 : Int) (σ : MS) (Q : MQ9) : Prop := WP (D + 60) 0 122 71 [(0, vr 86), (1, vr l1), (3, vi l3), (4, vi l4), (5, vi l5), (6, vw l6)] [vw s0] σ Q
def Texts_call_135 (D : Nat) (l1 : Nat) (l4 : Int) (l6 : Int) (l7 : Int) (l9 : Int) (l10 : Int) (l11 : Int) (l12 : Int) (s0 : Int) (σ : MS) (Q : MQ9) : Prop := WP (D + 60) 0 122 135 [(0, vr 86), (1, vr l1), (4, vi l4), (6, vw l6), (7, vw l7), (9, vw l9), (10, vw l10), (11, vw l11), (12, vw l12)] [vw s0] σ Q
def Texts_call_140 (D : Nat) (l1 : Nat) (l4 : Int) (l6 : Int) (l7 : Int) (l9 : Int) (l10 : Int) (l11 : Int) (l12 : Int) (l13 : Int) (l14 : Int) (σ : MS) (Q : MQ9) : Prop := WP (D + 60) 0 122 140 [(0, vr 86), (1, vr l1), (4, vi l4), (6, vw l6), (7, vw l7), (9, vw l9), (10, vw l10), (11, vw l11), (12, vw l12), (13, vw l13), (14, vi l14)] [] σ Q
def Texts_call_294 (D : Nat) (l1 : Nat) (l4 : Int) (l9 : Int) (l10 : Int) (l11 : Int) (l12 : Int) (l14 : Int) (s0 : Int) (s1 : Int) (σ : MS) (Q : MQ9) : Prop := WP (D + 60) 0 122 294 [(0, vr 86), (1, vr l1), (4, vi l4), (9, vw l9), (10, vw l10), (11, vw l11), (12, vw l12), (14, vw l14)] [vw s1, vw s0] σ Q
def Texts_call_437 (D : Nat) (l9 : Int) (l10 : Int) (l11 : Int) (l12 : Int) (l14 : Int) (σ : MS) (Q : MQ9) : Prop := WP (D + 60) 0 122 437 [(0, vr 86), (9, vw l9), (10, vw l10), (11, vw l11), (12, vw l12), (14, vw l14)] [] σ Q
def Texts_call_467 (D : Nat) (l9 : Int) (l10 : Int) (l12 : Int) (σ : MS) (Q : MQ9) : Prop := WP (D + 60) 0 122 467 [(0, vr 86), (9, vw l9), (10, vw l10), (12, vw l12)] [] σ Q
def Texts_workBody (D : Nat) (l1 : Int) (l2 : Int) (l3 : Int) (σ : MS) (Q : MQ9) : Prop := WP (D + 60) 0 123 0 [(0, vr 86), (1, vi l1), (2, vi l2), (3, vi l3)] [] σ Q
def Texts_arityOf (l1 : Int) (l2 : Int) (σ : MS) (Q : MQ9) : Prop := WP 7 0 124 0 [(0, vr 86), (1, vi l1), (2, vi l2)] [] σ Q
def Texts_arityOf_29 (σ : MS) (Q : MQ9) : Prop := WP 7 0 124 29 [(0, vr 86)] [] σ Q
def Texts_arityOf_57 (l2 : Int) (σ : MS) (Q : MQ9) : Prop := WP 7 0 124 57 [(0, vr 86), (2, vi l2)] [] σ Q
def Texts_arityOf_62 (l2 : Int) (s0 : Int) (σ : MS) (Q : MQ9) : Prop := WP 7 0 124 62 [(0, vr 86), (2, vi l2)] [vw s0] σ Q
def Texts_arityOf_89 (l2 : Int) (s0 : Int) (s1 : Int) (σ : MS) (Q : MQ9) : Prop := WP 7 0 124 89 [(0, vr 86), (2, vi l2)] [vw s1, vw s0] σ Q
def Texts_arityOf_92 (l2 : Int) (σ : MS) (Q : MQ9) : Prop := WP 7 0 124 92 [(0, vr 86), (2, vi l2)] [] σ Q
def Texts_findArguments (l1 : Nat) (l2 : Int) (l3 : Int) (l4 : Int) (σ : MS) (Q : MQ9) : Prop := WP 8 0 125 0 [(0, vr 86), (1, vr l1), (2, vi l2), (3, vi l3), (4, vi l4)] [] σ Q
def Texts_findArguments_6 (l1 : Nat) (l3 : Int) (l4 : Int) (l5 : Int) (l6 : Int) (σ : MS) (Q : MQ9) : Prop := WP 8 0 125 6 [(0, vr 86), (1, vr l1), (3, vi l3), (4, vi l4), (5, vi l5), (6, vi l6)] [] σ Q
def Texts_findArguments_30 (l1 : Nat) (l3 : Int) (l4 : Int) (l5 : Int) (l6 : Int) (σ : MS) (Q : MQ9) : Prop := WP 8 0 125 30 [(0, vr 86), (1, vr l1), (3, vi l3), (4, vi l4), (5, vi l5), (6, vi l6)] [] σ Q
def Texts_findArguments_38 (l1 : Nat) (l3 : Int) (l4 : Int) (l5 : Int) (l6 : Int) (σ : MS) (Q : MQ9) : Prop := WP 8 0 125 38 [(0, vr 86), (1, vr l1), (3, vi l3), (4, vi l4), (5, vi l5), (6, vi l6)] [] σ Q
def Texts_closing (l1 : Nat) (l2 : Int) (l3 : Int) (σ : MS) (Q : MQ9) : Prop := WP 7 0 126 0 [(0, vr 86), (1, vr l1), (2, vi l2), (3, vi l3)] [] σ Q
def Texts_closing_6 (l1 : Nat) (l3 : Int) (l4 : Int) (l5 : Int) (σ : MS) (Q : MQ9) : Prop := WP 7 0 126 6 [(0, vr 86), (1, vr l1), (3, vi l3), (4, vi l4), (5, vi l5)] [] σ Q
def Texts_closing_64 (l1 : Nat) (l3 : Int) (l4 : Int) (l5 : Int) (σ : MS) (Q : MQ9) : Prop := WP 7 0 126 64 [(0, vr 86), (1, vr l1), (3, vi l3), (4, vi l4), (5, vi l5)] [] σ Q
def Texts_putArgument (l1 : Int) (σ : MS) (Q : MQ9) : Prop := WP 9 0 127 0 [(0, vr 86), (1, vi l1)] [] σ Q
def Texts_putArgument_24 (l2 : Int) (σ : MS) (Q : MQ9) : Prop := WP 9 0 127 24 [(0, vr 86), (2, vi l2)] [] σ Q
def Texts_putArgument_33 (l2 : Int) (σ : MS) (Q : MQ9) : Prop := WP 9 0 127 33 [(0, vr 86), (2, vi l2)] [] σ Q
def Texts_put (l1 : Int) (σ : MS) (Q : MQ9) : Prop := WP 7 0 128 0 [(0, vr 86), (1, vi l1)] [] σ Q
def Texts_put_70 (l1 : Int) (σ : MS) (Q : MQ9) : Prop := WP 7 0 128 70 [(0, vr 86), (1, vi l1)] [] σ Q
def Texts_putPart (l1 : Int) (l2 : Int) (σ : MS) (Q : MQ9) : Prop := WP 8 0 129 0 [(0, vr 86), (1, vi l1), (2, vi l2)] [] σ Q
def Texts_putPart_2 (l2 : Int) (l3 : Int) (σ : MS) (Q : MQ9) : Prop := WP 8 0 129 2 [(0, vr 86), (2, vi l2), (3, vi l3)] [] σ Q
def Texts_putScratch (σ : MS) (Q : MQ9) : Prop := WP 8 0 130 0 [(0, vr 86)] [] σ Q
def Texts_putScratch_2 (l1 : Int) (σ : MS) (Q : MQ9) : Prop := WP 8 0 130 2 [(0, vr 86), (1, vi l1)] [] σ Q
def Texts_reshape (l1 : Int) (l2 : Int) (σ : MS) (Q : MQ9) : Prop := WP 9 0 131 0 [(0, vr 86), (1, vi l1), (2, vi l2)] [] σ Q
def Texts_reshape_28 (l1 : Int) (l2 : Int) (s0 : Int) (s1 : Int) (σ : MS) (Q : MQ9) : Prop := WP 9 0 131 28 [(0, vr 86), (1, vi l1), (2, vi l2)] [vw s1, vi s0] σ Q
def Texts_reshape_33 (l1 : Int) (l2 : Int) (s0 : Int) (s1 : Int) (s2 : Int) (σ : MS) (Q : MQ9) : Prop := WP 9 0 131 33 [(0, vr 86), (1, vi l1), (2, vi l2)] [vw s2, vw s1, vi s0] σ Q
def Texts_reshape_94 (l4 : Int) (l6 : Int) (σ : MS) (Q : MQ9) : Prop := WP 9 0 131 94 [(0, vr 86), (4, vw l4), (6, vi l6)] [] σ Q
def Texts_reshape_136 (l4 : Int) (l5 : Int) (l6 : Int) (l7 : Int) (σ : MS) (Q : MQ9) : Prop := WP 9 0 131 136 [(0, vr 86), (4, vw l4), (5, vw l5), (6, vw l6), (7, vi l7)] [] σ Q
def Texts_reshape_251 (l1 : Int) (l4 : Int) (l5 : Int) (s0 : Int) (σ : MS) (Q : MQ9) : Prop := WP 9 0 131 251 [(0, vr 86), (1, vi l1), (4, vw l4), (5, vw l5)] [vw s0] σ Q
def Texts_reshape_257 (l1 : Int) (l4 : Int) (l5 : Int) (l9 : Int) (l10 : Int) (σ : MS) (Q : MQ9) : Prop := WP 9 0 131 257 [(0, vr 86), (1, vi l1), (4, vw l4), (5, vw l5), (9, vw l9), (10, vi l10)] [] σ Q
def Texts_reshape_289 (l1 : Int) (l4 : Int) (l5 : Int) (l9 : Int) (l10 : Int) (s0 : Int) (σ : MS) (Q : MQ9) : Prop := WP 9 0 131 289 [(0, vr 86), (1, vi l1), (4, vw l4), (5, vw l5), (9, vw l9), (10, vi l10)] [vw s0] σ Q
def Texts_recast (l0 : Int) (l1 : Int) (l2 : Int) (l3 : Int) (σ : MS) (Q : MQ9) : Prop := WP 7 0 132 0 [(0, vi l0), (1, vi l1), (2, vi l2), (3, vi l3)] [] σ Q
def Texts_recast_26 (l1 : Int) (l4 : Int) (σ : MS) (Q : MQ9) : Prop := WP 7 0 132 26 [(1, vi l1), (4, vw l4)] [] σ Q
def Texts_recast_36 (l0 : Int) (l1 : Int) (l2 : Int) (l4 : Int) (l5 : Int) (σ : MS) (Q : MQ9) : Prop := WP 7 0 132 36 [(0, vi l0), (1, vi l1), (2, vi l2), (4, vw l4), (5, vw l5)] [] σ Q
def Texts_recast_79 (l1 : Int) (l2 : Int) (l4 : Int) (s0 : Int) (σ : MS) (Q : MQ9) : Prop := WP 7 0 132 79 [(1, vi l1), (2, vi l2), (4, vw l4)] [vw s0] σ Q
def Texts_recast_98 (l1 : Int) (l4 : Int) (l5 : Int) (σ : MS) (Q : MQ9) : Prop := WP 7 0 132 98 [(1, vi l1), (4, vw l4), (5, vi l5)] [] σ Q
def Texts_putNthWord (l1 : Int) (l2 : Int) (l3 : Int) (σ : MS) (Q : MQ9) : Prop := WP 8 0 133 0 [(0, vr 86), (1, vi l1), (2, vi l2), (3, vi l3)] [] σ Q
def Texts_putNthWord_9 (l1 : Int) (l3 : Int) (l4 : Int) (l5 : Int) (l6 : Int) (σ : MS) (Q : MQ9) : Prop := WP 8 0 133 9 [(0, vr 86), (1, vi l1), (3, vi l3), (4, vi l4), (5, vw l5), (6, vi l6)] [] σ Q
def Texts_putNthWord_38 (l1 : Int) (l3 : Int) (l4 : Int) (l5 : Int) (l6 : Int) (s0 : Int) (σ : MS) (Q : MQ9) : Prop := WP 8 0 133 38 [(0, vr 86), (1, vi l1), (3, vi l3), (4, vi l4), (5, vw l5), (6, vi l6)] [vw s0] σ Q
def Texts_putNthWord_53 (l1 : Int) (l3 : Int) (l4 : Int) (l6 : Int) (l7 : Int) (σ : MS) (Q : MQ9) : Prop := WP 8 0 133 53 [(0, vr 86), (1, vi l1), (3, vi l3), (4, vi l4), (6, vi l6), (7, vw l7)] [] σ Q
def Texts_putNthWord_63 (l1 : Int) (l3 : Int) (l4 : Int) (l6 : Int) (s0 : Int) (σ : MS) (Q : MQ9) : Prop := WP 8 0 133 63 [(0, vr 86), (1, vi l1), (3, vi l3), (4, vi l4), (6, vi l6)] [vw s0] σ Q
def Texts_putNthWord_89 (l1 : Int) (l3 : Int) (l4 : Int) (l5 : Int) (l6 : Int) (σ : MS) (Q : MQ9) : Prop := WP 8 0 133 89 [(0, vr 86), (1, vi l1), (3, vi l3), (4, vi l4), (5, vw l5), (6, vi l6)] [] σ Q
def Texts_reckon (l1 : Int) (l2 : Int) (σ : MS) (Q : MQ9) : Prop := WP 9 0 134 0 [(0, vr 86), (1, vi l1), (2, vi l2)] [] σ Q
def Texts_reckon_149 (l3 : Int) (l4 : Int) (σ : MS) (Q : MQ9) : Prop := WP 9 0 134 149 [(0, vr 86), (3, vi l3), (4, vw l4)] [] σ Q
def Texts_placeOf (l1 : Int) (σ : MS) (Q : MQ9) : Prop := WP 6 0 135 0 [(0, vr 86), (1, vi l1)] [] σ Q
def Texts_placeOf_46 (l1 : Int) (l2 : Int) (l3 : Int) (l4 : Int) (l5 : Int) (σ : MS) (Q : MQ9) : Prop := WP 6 0 135 46 [(0, vr 86), (1, vi l1), (2, vi l2), (3, vw l3), (4, vw l4), (5, vi l5)] [] σ Q
def Texts_tellCounter (l1 : Int) (l2 : Int) (σ : MS) (Q : MQ9) : Prop := WP 9 0 136 0 [(0, vr 86), (1, vi l1), (2, vi l2)] [] σ Q
def Texts_tellCounter_79 (l1 : Int) (l2 : Int) (l3 : Int) (σ : MS) (Q : MQ9) : Prop := WP 9 0 136 79 [(0, vr 86), (1, vi l1), (2, vi l2), (3, vw l3)] [] σ Q
def Texts_tellCounter_135 (l1 : Int) (l3 : Int) (l4 : Int) (σ : MS) (Q : MQ9) : Prop := WP 9 0 136 135 [(0, vr 86), (1, vi l1), (3, vw l3), (4, vw l4)] [] σ Q
def Texts_tellCounter_161 (l3 : Int) (l4 : Int) (σ : MS) (Q : MQ9) : Prop := WP 9 0 136 161 [(0, vr 86), (3, vw l3), (4, vw l4)] [] σ Q
def Texts_tellCounter_191 (l3 : Int) (s1 : Int) (σ : MS) (Q : MQ9) : Prop := WP 9 0 136 191 [(0, vr 86), (3, vw l3)] [vw s1, vr 95] σ Q
def Texts_sameArguments (l1 : Int) (σ : MS) (Q : MQ9) : Prop := WP 6 0 137 0 [(0, vr 86), (1, vi l1)] [] σ Q
def Texts_number (l1 : Int) (l2 : Int) (l3 : Int) (σ : MS) (Q : MQ9) : Prop := WP 7 0 138 0 [(0, vr 86), (1, vi l1), (2, vi l2), (3, vi l3)] [] σ Q
def Texts_number_50 (l2 : Int) (l3 : Int) (l4 : Int) (l5 : Int) (σ : MS) (Q : MQ9) : Prop := WP 7 0 138 50 [(0, vr 86), (2, vi l2), (3, vi l3), (4, vw l4), (5, vw l5)] [] σ Q
def Texts_number_51 (l2 : Int) (l3 : Int) (l4 : Int) (l5 : Int) (s0 : Int) (σ : MS) (Q : MQ9) : Prop := WP 7 0 138 51 [(0, vr 86), (2, vi l2), (3, vi l3), (4, vw l4), (5, vw l5)] [vw s0] σ Q
def Texts_number_67 (l2 : Int) (l3 : Int) (l5 : Int) (l6 : Int) (s0 : Int) (σ : MS) (Q : MQ9) : Prop := WP 7 0 138 67 [(0, vr 86), (2, vi l2), (3, vi l3), (5, vw l5), (6, vw l6)] [vi s0] σ Q
def Texts_number_91 (l2 : Int) (l3 : Int) (l5 : Int) (l6 : Int) (l7 : Int) (σ : MS) (Q : MQ9) : Prop := WP 7 0 138 91 [(0, vr 86), (2, vi l2), (3, vi l3), (5, vw l5), (6, vw l6), (7, vi l7)] [] σ Q
def Texts_number_92 (l2 : Int) (l3 : Int) (l5 : Int) (l6 : Int) (l7 : Int) (s0 : Int) (σ : MS) (Q : MQ9) : Prop := WP 7 0 138 92 [(0, vr 86), (2, vi l2), (3, vi l3), (5, vw l5), (6, vw l6), (7, vi l7)] [vw s0] σ Q
def Texts_number_101 (l2 : Int) (l3 : Int) (l5 : Int) (l6 : Int) (l8 : Int) (l9 : Int) (l10 : Int) (σ : MS) (Q : MQ9) : Prop := WP 7 0 138 101 [(0, vr 86), (2, vi l2), (3, vi l3), (5, vw l5), (6, vw l6), (8, vw l8), (9, vi l9), (10, vi l10)] [] σ Q
def Texts_number_153 (l2 : Int) (l3 : Int) (l6 : Int) (l8 : Int) (l9 : Int) (σ : MS) (Q : MQ9) : Prop := WP 7 0 138 153 [(0, vr 86), (2, vi l2), (3, vi l3), (6, vw l6), (8, vw l8), (9, vi l9)] [] σ Q
def Texts_number_166 (l2 : Int) (l3 : Int) (l8 : Int) (s0 : Int) (σ : MS) (Q : MQ9) : Prop := WP 7 0 138 166 [(0, vr 86), (2, vi l2), (3, vi l3), (8, vw l8)] [vi s0] σ Q
def Texts_number_185 (l9 : Int) (σ : MS) (Q : MQ9) : Prop := WP 7 0 138 185 [(0, vr 86), (9, vi l9)] [] σ Q
def Texts_needKey (l1 : Int) (σ : MS) (Q : MQ9) : Prop := WP 7 0 139 0 [(0, vr 86), (1, vi l1)] [] σ Q
def Texts_needKey_39 (l2 : Int) (l3 : Int) (σ : MS) (Q : MQ9) : Prop := WP 7 0 139 39 [(0, vr 86), (2, vw l2), (3, vw l3)] [] σ Q
def Texts_needKey_40 (l2 : Int) (l3 : Int) (s0 : Int) (σ : MS) (Q : MQ9) : Prop := WP 7 0 139 40 [(0, vr 86), (2, vw l2), (3, vw l3)] [vw s0] σ Q
def Texts_needKey_45 (l3 : Int) (l4 : Int) (l5 : Int) (σ : MS) (Q : MQ9) : Prop := WP 7 0 139 45 [(0, vr 86), (3, vw l3), (4, vw l4), (5, vi l5)] [] σ Q
def Texts_needKey_79 (l4 : Int) (σ : MS) (Q : MQ9) : Prop := WP 7 0 139 79 [(0, vr 86), (4, vw l4)] [] σ Q
def Texts_note (l1 : Int) (σ : MS) (Q : MQ9) : Prop := WP 9 0 140 0 [(0, vr 86), (1, vi l1)] [] σ Q
def Texts_note_21 (l1 : Int) (σ : MS) (Q : MQ9) : Prop := WP 9 0 140 21 [(0, vr 86), (1, vi l1)] [] σ Q
def Texts_label (l1 : Int) (σ : MS) (Q : MQ9) : Prop := WP 8 0 141 0 [(0, vr 86), (1, vi l1)] [] σ Q
def Texts_label_54 (l2 : Int) (l3 : Int) (σ : MS) (Q : MQ9) : Prop := WP 8 0 141 54 [(0, vr 86), (2, vw l2), (3, vw l3)] [] σ Q
def Texts_label_78 (l2 : Int) (l3 : Int) (σ : MS) (Q : MQ9) : Prop := WP 8 0 141 78 [(0, vr 86), (2, vw l2), (3, vw l3)] [] σ Q
def Texts_index (l1 : Int) (σ : MS) (Q : MQ9) : Prop := WP 7 0 142 0 [(0, vr 86), (1, vi l1)] [] σ Q
def Texts_index_76 (σ : MS) (Q : MQ9) : Prop := WP 7 0 142 76 [(0, vr 86)] [] σ Q
def Texts_index_100 (σ : MS) (Q : MQ9) : Prop := WP 7 0 142 100 [(0, vr 86)] [] σ Q
def Texts_lastSolid (σ : MS) (Q : MQ9) : Prop := WP 6 0 143 0 [(0, vr 86)] [] σ Q
def Texts_lastSolid_10 (l1 : Int) (σ : MS) (Q : MQ9) : Prop := WP 6 0 143 10 [(0, vr 86), (1, vi l1)] [] σ Q
def Texts_firstSolid (σ : MS) (Q : MQ9) : Prop := WP 6 0 144 0 [(0, vr 86)] [] σ Q
def Texts_firstSolid_2 (l1 : Int) (σ : MS) (Q : MQ9) : Prop := WP 6 0 144 2 [(0, vr 86), (1, vi l1)] [] σ Q
def Texts_refer (l1 : Int) (l2 : Int) (σ : MS) (Q : MQ9) : Prop := WP 9 0 145 0 [(0, vr 86), (1, vi l1), (2, vi l2)] [] σ Q
def Texts_refer_157 (σ : MS) (Q : MQ9) : Prop := WP 9 0 145 157 [(0, vr 86)] [] σ Q
def T_feed (l1 : Int) (l3 : Int) (l5 : Int) (σ : MS) (Q : MQ9) : Prop := WP 7 0 146 0 [(0, vr 0), (1, vl l1), (3, vl l3), (5, vl l5)] [] σ Q
def T_write (σ : MS) (Q : MQ9) : Prop := WP 7 0 147 0 [(0, vr 0)] [] σ Q
def T_add (σ : MS) (Q : MQ9) : Prop := WP 7 0 148 0 [(0, vr 0)] [] σ Q
def T_replace (l1 : Int) (σ : MS) (Q : MQ9) : Prop := WP 9 0 149 0 [(0, vr 0), (1, vi l1)] [] σ Q
def T_replace_10 (σ : MS) (Q : MQ9) : Prop := WP 9 0 149 10 [(0, vr 0)] [] σ Q
def T_back (σ : MS) (Q : MQ9) : Prop := WP 6 0 150 0 [(0, vr 0)] [] σ Q
def T_find (l1 : Int) (σ : MS) (Q : MQ9) : Prop := WP 6 0 151 0 [(0, vr 0), (1, vi l1)] [] σ Q
def T_find_29 (l2 : Int) (l3 : Int) (σ : MS) (Q : MQ9) : Prop := WP 6 0 151 29 [(0, vr 0), (2, vi l2), (3, vi l3)] [] σ Q
def T_find_78 (l2 : Int) (l3 : Int) (σ : MS) (Q : MQ9) : Prop := WP 6 0 151 78 [(0, vr 0), (2, vi l2), (3, vi l3)] [] σ Q
def T_find_84 (l2 : Int) (σ : MS) (Q : MQ9) : Prop := WP 6 0 151 84 [(0, vr 0), (2, vi l2)] [] σ Q
def T_letter (l1 : Int) (σ : MS) (Q : MQ9) : Prop := WP 6 0 152 0 [(0, vr 0), (1, vi l1)] [] σ Q
def T_set (a : Nat) (σ : MS) (Q : MQ9) : Prop := WP 303 a 153 0 [(0, vr 0)] [] σ Q
def T_set_25 (a : Nat) (l1 : Int) (l2 : Int) (σ : MS) (Q : MQ9) : Prop := WP 303 a 153 25 [(0, vr 0), (1, vw l1), (2, vi l2)] [] σ Q
def T_set_58 (a : Nat) (σ : MS) (Q : MQ9) : Prop := WP 303 a 153 58 [(0, vr 0)] [] σ Q
def T_set_77 (a : Nat) (l1 : Int) (σ : MS) (Q : MQ9) : Prop := WP 303 a 153 77 [(0, vr 0), (1, vi l1)] [] σ Q
def T_pages (σ : MS) (Q : MQ9) : Prop := WP 7 0 154 0 [(0, vr 0)] [] σ Q
def T_lines (l1 : Int) (σ : MS) (Q : MQ9) : Prop := WP 8 0 155 0 [(0, vr 0), (1, vi l1)] [] σ Q
def T_length (l1 : Int) (l2 : Int) (σ : MS) (Q : MQ9) : Prop := WP 9 0 156 0 [(0, vr 0), (1, vi l1), (2, vi l2)] [] σ Q
def T_sign (l1 : Int) (l2 : Int) (l3 : Int) (σ : MS) (Q : MQ9) : Prop := WP 10 0 157 0 [(0, vr 0), (1, vi l1), (2, vi l2), (3, vi l3)] [] σ Q
def T_style (l1 : Int) (l2 : Int) (l3 : Int) (σ : MS) (Q : MQ9) : Prop := WP 10 0 158 0 [(0, vr 0), (1, vi l1), (2, vi l2), (3, vi l3)] [] σ Q
def T_origin (l1 : Int) (l2 : Int) (σ : MS) (Q : MQ9) : Prop := WP 9 0 159 0 [(0, vr 0), (1, vi l1), (2, vi l2)] [] σ Q
def T_labelled (σ : MS) (Q : MQ9) : Prop := WP 7 0 160 0 [(0, vr 0)] [] σ Q
def T_labelled_41 (l1 : Nat) (s0 : Int) (σ : MS) (Q : MQ9) : Prop := WP 7 0 160 41 [(0, vr 0), (1, vr l1)] [vw s0] σ Q
def T_tell (a : Nat) (σ : MS) (Q : MQ9) : Prop := WP 302 a 161 0 [(0, vr 0)] [] σ Q
def T_tell_9 (a : Nat) (l1 : Int) (σ : MS) (Q : MQ9) : Prop := WP 302 a 161 9 [(0, vr 0), (1, vi l1)] [] σ Q
def T_tell_50 (a : Nat) (l1 : Int) (s1 : Int) (σ : MS) (Q : MQ9) : Prop := WP 302 a 161 50 [(0, vr 0), (1, vi l1)] [vw s1, vr 7] σ Q
def T_tell_97 (a : Nat) (σ : MS) (Q : MQ9) : Prop := WP 302 a 161 97 [(0, vr 0)] [] σ Q
def T_tell_107 (a : Nat) (l1 : Int) (σ : MS) (Q : MQ9) : Prop := WP 302 a 161 107 [(0, vr 0), (1, vi l1)] [] σ Q
def T_hyphens (σ : MS) (Q : MQ9) : Prop := WP 9 0 162 0 [(0, vr 0)] [] σ Q
def T_hyphens_27 (σ : MS) (Q : MQ9) : Prop := WP 9 0 162 27 [(0, vr 0)] [] σ Q
def T_hyphens_28 (s0 : Int) (σ : MS) (Q : MQ9) : Prop := WP 9 0 162 28 [(0, vr 0)] [vw s0] σ Q
def T_hyphens_31 (l1 : Int) (l2 : Int) (σ : MS) (Q : MQ9) : Prop := WP 9 0 162 31 [(0, vr 0), (1, vw l1), (2, vi l2)] [] σ Q
def T_hyphens_64 (l1 : Int) (σ : MS) (Q : MQ9) : Prop := WP 9 0 162 64 [(0, vr 0), (1, vw l1)] [] σ Q
def T_hyphens_105 (l2 : Int) (σ : MS) (Q : MQ9) : Prop := WP 9 0 162 105 [(0, vr 0), (2, vi l2)] [] σ Q
def T_hyphens_136 (l2 : Int) (σ : MS) (Q : MQ9) : Prop := WP 9 0 162 136 [(0, vr 0), (2, vi l2)] [] σ Q
def T_answer (l1 : Int) (σ : MS) (Q : MQ9) : Prop := WP 6 0 163 0 [(0, vr 0), (1, vi l1)] [] σ Q
def T_keep (σ : MS) (Q : MQ9) : Prop := WP 8 0 164 0 [(0, vr 0)] [] σ Q
def T_changed (l1 : Int) (σ : MS) (Q : MQ9) : Prop := WP 9 0 165 0 [(0, vr 0), (1, vi l1)] [] σ Q
def T_count (l1 : Int) (σ : MS) (Q : MQ9) : Prop := WP 7 0 166 0 [(0, vr 0), (1, vi l1)] [] σ Q
def T_count_34 (l1 : Int) (σ : MS) (Q : MQ9) : Prop := WP 7 0 166 34 [(0, vr 0), (1, vi l1)] [] σ Q
def T_feedBytes (l1 : Int) (σ : MS) (Q : MQ9) : Prop := WP 6 0 167 0 [(0, vr 0), (1, vl l1)] [] σ Q
def T_feedBytes_3 (l1 : Int) (l3 : Int) (σ : MS) (Q : MQ9) : Prop := WP 6 0 167 3 [(0, vr 0), (1, vl l1), (3, vi l3)] [] σ Q
def T_feedBytes_38 (l1 : Int) (l3 : Int) (l4 : Int) (σ : MS) (Q : MQ9) : Prop := WP 6 0 167 38 [(0, vr 0), (1, vl l1), (3, vi l3), (4, vw l4)] [] σ Q
def T_feedBytes_60 (l1 : Int) (l3 : Int) (σ : MS) (Q : MQ9) : Prop := WP 6 0 167 60 [(0, vr 0), (1, vl l1), (3, vi l3)] [] σ Q
def T_lineCount (σ : MS) (Q : MQ9) : Prop := WP 6 0 168 0 [(0, vr 0)] [] σ Q
def T_lineCount_4 (l1 : Int) (l2 : Int) (σ : MS) (Q : MQ9) : Prop := WP 6 0 168 4 [(0, vr 0), (1, vi l1), (2, vi l2)] [] σ Q
def T_lineCount_41 (l1 : Int) (l2 : Int) (σ : MS) (Q : MQ9) : Prop := WP 6 0 168 41 [(0, vr 0), (1, vi l1), (2, vi l2)] [] σ Q
def T_lineCount_44 (l1 : Int) (l2 : Int) (σ : MS) (Q : MQ9) : Prop := WP 6 0 168 44 [(0, vr 0), (1, vi l1), (2, vi l2)] [] σ Q
def T_remember (σ : MS) (Q : MQ9) : Prop := WP 6 0 169 0 [(0, vr 0)] [] σ Q
def T_putInPlace (l1 : Int) (σ : MS) (Q : MQ9) : Prop := WP 8 0 170 0 [(0, vr 0), (1, vi l1)] [] σ Q
def T_putInPlace_2 (l1 : Int) (l2 : Int) (σ : MS) (Q : MQ9) : Prop := WP 8 0 170 2 [(0, vr 0), (1, vi l1), (2, vi l2)] [] σ Q
def T_putInPlace_32 (l1 : Int) (l2 : Int) (σ : MS) (Q : MQ9) : Prop := WP 8 0 170 32 [(0, vr 0), (1, vi l1), (2, vi l2)] [] σ Q
def T_putInPlace_92 (l1 : Int) (l2 : Int) (l3 : Int) (l4 : Int) (l5 : Int) (σ : MS) (Q : MQ9) : Prop := WP 8 0 170 92 [(0, vr 0), (1, vi l1), (2, vi l2), (3, vi l3), (4, vi l4), (5, vi l5)] [] σ Q
def T_putInPlace_201 (l1 : Int) (l2 : Int) (l3 : Int) (l4 : Int) (l5 : Int) (σ : MS) (Q : MQ9) : Prop := WP 8 0 170 201 [(0, vr 0), (1, vi l1), (2, vi l2), (3, vi l3), (4, vi l4), (5, vi l5)] [] σ Q
def T_standsAt (l1 : Int) (l2 : Int) (l3 : Int) (σ : MS) (Q : MQ9) : Prop := WP 7 0 171 0 [(0, vr 0), (1, vi l1), (2, vi l2), (3, vi l3)] [] σ Q
def T_standsAt_18 (l1 : Int) (l2 : Int) (l3 : Int) (l4 : Int) (σ : MS) (Q : MQ9) : Prop := WP 7 0 171 18 [(0, vr 0), (1, vi l1), (2, vi l2), (3, vi l3), (4, vi l4)] [] σ Q
def T_standsAt_76 (l1 : Int) (l2 : Int) (l3 : Int) (l4 : Int) (σ : MS) (Q : MQ9) : Prop := WP 7 0 171 76 [(0, vr 0), (1, vi l1), (2, vi l2), (3, vi l3), (4, vi l4)] [] σ Q
def T_standsAt_120 (σ : MS) (Q : MQ9) : Prop := WP 7 0 171 120 [] [] σ Q
def T_putNew (l1 : Int) (l2 : Int) (l3 : Int) (σ : MS) (Q : MQ9) : Prop := WP 7 0 172 0 [(0, vr 0), (1, vi l1), (2, vi l2), (3, vi l3)] [] σ Q
def T_putNew_9 (l1 : Int) (l2 : Int) (l3 : Int) (l4 : Int) (l5 : Int) (l6 : Int) (σ : MS) (Q : MQ9) : Prop := WP 7 0 172 9 [(0, vr 0), (1, vi l1), (2, vi l2), (3, vi l3), (4, vi l4), (5, vi l5), (6, vi l6)] [] σ Q
def T_putNew_39 (l1 : Int) (l2 : Int) (l3 : Int) (l5 : Int) (l6 : Int) (s0 : Int) (s1 : Int) (σ : MS) (Q : MQ9) : Prop := WP 7 0 172 39 [(0, vr 0), (1, vi l1), (2, vi l2), (3, vi l3), (5, vi l5), (6, vi l6)] [vw s1, vi s0] σ Q
def T_putNew_64 (l1 : Int) (l2 : Int) (l3 : Int) (l4 : Int) (l6 : Int) (s0 : Int) (s1 : Int) (σ : MS) (Q : MQ9) : Prop := WP 7 0 172 64 [(0, vr 0), (1, vi l1), (2, vi l2), (3, vi l3), (4, vi l4), (6, vi l6)] [vw s1, vi s0] σ Q
def T_putNew_96 (l1 : Int) (l2 : Int) (l3 : Int) (σ : MS) (Q : MQ9) : Prop := WP 7 0 172 96 [(0, vr 0), (1, vi l1), (2, vi l2), (3, vi l3)] [] σ Q
def T_putNew_97 (l1 : Int) (l2 : Int) (l3 : Int) (s0 : Int) (σ : MS) (Q : MQ9) : Prop := WP 7 0 172 97 [(0, vr 0), (1, vi l1), (2, vi l2), (3, vi l3)] [vw s0] σ Q
def T_putNew_123 (l2 : Int) (l6 : Int) (σ : MS) (Q : MQ9) : Prop := WP 7 0 172 123 [(0, vr 0), (2, vi l2), (6, vw l6)] [] σ Q
def T_putNew_124 (l2 : Int) (l6 : Int) (s0 : Int) (σ : MS) (Q : MQ9) : Prop := WP 7 0 172 124 [(0, vr 0), (2, vi l2), (6, vw l6)] [vw s0] σ Q
def T_putNew_131 (l2 : Int) (l6 : Int) (l7 : Int) (l8 : Int) (σ : MS) (Q : MQ9) : Prop := WP 7 0 172 131 [(0, vr 0), (2, vi l2), (6, vw l6), (7, vw l7), (8, vi l8)] [] σ Q
def T_putNew_176 (l2 : Int) (l6 : Int) (l7 : Int) (l8 : Int) (l9 : Int) (σ : MS) (Q : MQ9) : Prop := WP 7 0 172 176 [(0, vr 0), (2, vi l2), (6, vw l6), (7, vw l7), (8, vi l8), (9, vw l9)] [vr 7] σ Q
def T_putNew_184 (l2 : Int) (l6 : Int) (l7 : Int) (l8 : Int) (l9 : Int) (σ : MS) (Q : MQ9) : Prop := WP 7 0 172 184 [(0, vr 0), (2, vi l2), (6, vw l6), (7, vw l7), (8, vi l8), (9, vw l9)] [vr 7] σ Q
def T_putNew_186 (l2 : Int) (l6 : Int) (l7 : Int) (l8 : Int) (s1 : Int) (σ : MS) (Q : MQ9) : Prop := WP 7 0 172 186 [(0, vr 0), (2, vi l2), (6, vw l6), (7, vw l7), (8, vi l8)] [vw s1, vr 7] σ Q
def T_needProof (σ : MS) (Q : MQ9) : Prop := WP 6 0 173 0 [(0, vr 0)] [] σ Q
def T_needKept (σ : MS) (Q : MQ9) : Prop := WP 6 0 174 0 [(0, vr 0)] [] σ Q
def T_needPage (l1 : Int) (σ : MS) (Q : MQ9) : Prop := WP 7 0 175 0 [(0, vr 0), (1, vi l1)] [] σ Q
def T_needPage_22 (σ : MS) (Q : MQ9) : Prop := WP 7 0 175 22 [] [] σ Q
def T_needLine (l1 : Int) (l2 : Int) (σ : MS) (Q : MQ9) : Prop := WP 8 0 176 0 [(0, vr 0), (1, vi l1), (2, vi l2)] [] σ Q
def T_needLine_21 (σ : MS) (Q : MQ9) : Prop := WP 8 0 176 21 [] [] σ Q
def T_needSign (l1 : Int) (l2 : Int) (l3 : Int) (σ : MS) (Q : MQ9) : Prop := WP 9 0 177 0 [(0, vr 0), (1, vi l1), (2, vi l2), (3, vi l3)] [] σ Q
def T_needSign_25 (σ : MS) (Q : MQ9) : Prop := WP 9 0 177 25 [] [] σ Q
def T_isSmall (l0 : Int) (σ : MS) (Q : MQ9) : Prop := WP 6 0 178 0 [(0, vi l0)] [] σ Q
def T_isGreat (l0 : Int) (σ : MS) (Q : MQ9) : Prop := WP 6 0 179 0 [(0, vi l0)] [] σ Q
def T_isLetter (l0 : Int) (σ : MS) (Q : MQ9) : Prop := WP 6 0 180 0 [(0, vi l0)] [] σ Q
def T_isLetter_12 (l0 : Int) (σ : MS) (Q : MQ9) : Prop := WP 6 0 180 12 [(0, vi l0)] [] σ Q
def T_isLetter_24 (σ : MS) (Q : MQ9) : Prop := WP 6 0 180 24 [] [] σ Q
def T_isDigit (l0 : Int) (σ : MS) (Q : MQ9) : Prop := WP 6 0 181 0 [(0, vi l0)] [] σ Q
def T_isWordSign (l0 : Int) (σ : MS) (Q : MQ9) : Prop := WP 6 0 182 0 [(0, vi l0)] [] σ Q
def T_isWordSign_12 (l0 : Int) (σ : MS) (Q : MQ9) : Prop := WP 6 0 182 12 [(0, vi l0)] [] σ Q
def T_isWordSign_24 (l0 : Int) (σ : MS) (Q : MQ9) : Prop := WP 6 0 182 24 [(0, vi l0)] [] σ Q
def T_isWordSign_36 (σ : MS) (Q : MQ9) : Prop := WP 6 0 182 36 [] [] σ Q
def T_great (l0 : Int) (σ : MS) (Q : MQ9) : Prop := WP 6 0 183 0 [(0, vi l0)] [] σ Q
def T_small (l0 : Int) (σ : MS) (Q : MQ9) : Prop := WP 6 0 184 0 [(0, vi l0)] [] σ Q
def R_thrown (σ : MS) (Q : MQ9) : Prop := WP 6 0 185 0 [(0, vr 246)] [] σ Q
def R_settings (σ : MS) (Q : MQ9) : Prop := WP 6 0 186 0 [(0, vr 246)] [] σ Q
def R_leastOf (l0 : Int) (σ : MS) (Q : MQ9) : Prop := WP 6 0 187 0 [(0, vi l0)] [] σ Q
def R_mostOf (l0 : Int) (σ : MS) (Q : MQ9) : Prop := WP 6 0 188 0 [(0, vi l0)] [] σ Q
def R_isSmall (l0 : Int) (σ : MS) (Q : MQ9) : Prop := WP 6 0 189 0 [(0, vi l0)] [] σ Q
def R_isGreat (l0 : Int) (σ : MS) (Q : MQ9) : Prop := WP 6 0 190 0 [(0, vi l0)] [] σ Q
def R_isLetter (l0 : Int) (σ : MS) (Q : MQ9) : Prop := WP 7 0 191 0 [(0, vi l0)] [] σ Q
def R_isLetter_14 (σ : MS) (Q : MQ9) : Prop := WP 7 0 191 14 [] [] σ Q
def R_isDigit (l0 : Int) (σ : MS) (Q : MQ9) : Prop := WP 6 0 192 0 [(0, vi l0)] [] σ Q
def R_low (l0 : Int) (σ : MS) (Q : MQ9) : Prop := WP 7 0 193 0 [(0, vi l0)] [] σ Q
def R_great (l0 : Int) (σ : MS) (Q : MQ9) : Prop := WP 7 0 194 0 [(0, vi l0)] [] σ Q
def R_shown (l0 : Int) (σ : MS) (Q : MQ9) : Prop := WP 6 0 195 0 [(0, vi l0)] [] σ Q
def R_at (l1 : Int) (σ : MS) (Q : MQ9) : Prop := WP 6 0 196 0 [(0, vr 246), (1, vi l1)] [] σ Q
def R_signAt (l1 : Int) (σ : MS) (Q : MQ9) : Prop := WP 6 0 197 0 [(0, vr 246), (1, vi l1)] [] σ Q
def R_fail (l1 : Int) (σ : MS) (Q : MQ9) : Prop := WP 6 0 198 0 [(0, vr 246), (1, vi l1)] [] σ Q
def R_spend (l1 : Int) (σ : MS) (Q : MQ9) : Prop := WP 7 0 199 0 [(0, vr 246), (1, vi l1)] [] σ Q
def R_spend_24 (σ : MS) (Q : MQ9) : Prop := WP 7 0 199 24 [(0, vr 246)] [] σ Q
def R_enters (σ : MS) (Q : MQ9) : Prop := WP 8 0 200 0 [(0, vr 246)] [] σ Q
def R_put (l1 : Int) (l2 : Int) (σ : MS) (Q : MQ9) : Prop := WP 8 0 201 0 [(0, vr 246), (1, vi l1), (2, vi l2)] [] σ Q
def R_putSmall (σ : MS) (Q : MQ9) : Prop := WP 9 0 202 0 [(0, vr 246)] [] σ Q
def R_putSmall_2 (l1 : Int) (σ : MS) (Q : MQ9) : Prop := WP 9 0 202 2 [(0, vr 246), (1, vi l1)] [] σ Q
def R_wordOf (l1 : Nat) (l2 : Int) (l3 : Int) (σ : MS) (Q : MQ9) : Prop := WP 6 0 203 0 [(0, vr 246), (1, vr l1), (2, vi l2), (3, vi l3)] [] σ Q
def R_wordOf_6 (l1 : Nat) (l2 : Int) (l3 : Int) (l4 : Int) (l5 : Int) (σ : MS) (Q : MQ9) : Prop := WP 6 0 203 6 [(0, vr 246), (1, vr l1), (2, vi l2), (3, vi l3), (4, vi l4), (5, vi l5)] [] σ Q
def R_wordOf_18 (l1 : Nat) (l2 : Int) (l3 : Int) (l4 : Int) (l5 : Int) (l6 : Int) (σ : MS) (Q : MQ9) : Prop := WP 6 0 203 18 [(0, vr 246), (1, vr l1), (2, vi l2), (3, vi l3), (4, vi l4), (5, vi l5), (6, vi l6)] [] σ Q
def R_wordOf_51 (l1 : Nat) (l2 : Int) (l3 : Int) (l4 : Int) (l5 : Int) (l6 : Int) (s0 : Int) (σ : MS) (Q : MQ9) : Prop := WP 6 0 203 51 [(0, vr 246), (1, vr l1), (2, vi l2), (3, vi l3), (4, vi l4), (5, vi l5), (6, vi l6)] [vw s0] σ Q
def R_wordOf_56 (l1 : Nat) (l2 : Int) (l3 : Int) (l4 : Int) (l5 : Int) (l6 : Int) (l7 : Int) (l8 : Int) (σ : MS) (Q : MQ9) : Prop := WP 6 0 203 56 [(0, vr 246), (1, vr l1), (2, vi l2), (3, vi l3), (4, vi l4), (5, vi l5), (6, vi l6), (7, vw l7), (8, vi l8)] [] σ Q
def R_wordOf_94 (l1 : Nat) (l2 : Int) (l3 : Int) (l4 : Int) (l5 : Int) (l6 : Int) (l8 : Int) (s0 : Int) (σ : MS) (Q : MQ9) : Prop := WP 6 0 203 94 [(0, vr 246), (1, vr l1), (2, vi l2), (3, vi l3), (4, vi l4), (5, vi l5), (6, vi l6), (8, vi l8)] [vw s0] σ Q
def R_wordOf_102 (l1 : Nat) (l2 : Int) (l3 : Int) (l4 : Int) (l5 : Int) (l6 : Int) (l7 : Int) (σ : MS) (Q : MQ9) : Prop := WP 6 0 203 102 [(0, vr 246), (1, vr l1), (2, vi l2), (3, vi l3), (4, vi l4), (5, vi l5), (6, vi l6), (7, vw l7)] [] σ Q
def R_macroOf (l1 : Int) (l2 : Int) (σ : MS) (Q : MQ9) : Prop := WP 6 0 204 0 [(0, vr 246), (1, vi l1), (2, vi l2)] [] σ Q
def R_macroOf_2 (l1 : Int) (l2 : Int) (l3 : Int) (σ : MS) (Q : MQ9) : Prop := WP 6 0 204 2 [(0, vr 246), (1, vi l1), (2, vi l2), (3, vi l3)] [] σ Q
def R_macroOf_27 (l1 : Int) (l2 : Int) (l3 : Int) (s0 : Int) (σ : MS) (Q : MQ9) : Prop := WP 6 0 204 27 [(0, vr 246), (1, vi l1), (2, vi l2), (3, vi l3)] [vw s0] σ Q
def R_macroOf_32 (l1 : Int) (l2 : Int) (l3 : Int) (l4 : Int) (l5 : Int) (σ : MS) (Q : MQ9) : Prop := WP 6 0 204 32 [(0, vr 246), (1, vi l1), (2, vi l2), (3, vi l3), (4, vw l4), (5, vi l5)] [] σ Q
def R_macroOf_77 (l1 : Int) (l2 : Int) (l3 : Int) (l5 : Int) (s0 : Int) (σ : MS) (Q : MQ9) : Prop := WP 6 0 204 77 [(0, vr 246), (1, vi l1), (2, vi l2), (3, vi l3), (5, vi l5)] [vw s0] σ Q
def R_macroOf_85 (l1 : Int) (l2 : Int) (l3 : Int) (l4 : Int) (σ : MS) (Q : MQ9) : Prop := WP 6 0 204 85 [(0, vr 246), (1, vi l1), (2, vi l2), (3, vi l3), (4, vw l4)] [] σ Q
def R_argumentsOf (l0 : Int) (σ : MS) (Q : MQ9) : Prop := WP 6 0 205 0 [(0, vi l0)] [] σ Q
def R_closes (l1 : Int) (l2 : Int) (σ : MS) (Q : MQ9) : Prop := WP 7 0 206 0 [(0, vr 246), (1, vi l1), (2, vi l2)] [] σ Q
def R_closes_5 (l2 : Int) (l3 : Int) (l4 : Int) (σ : MS) (Q : MQ9) : Prop := WP 7 0 206 5 [(0, vr 246), (2, vi l2), (3, vi l3), (4, vi l4)] [] σ Q
def R_closes_42 (l2 : Int) (l3 : Int) (l4 : Int) (l5 : Int) (σ : MS) (Q : MQ9) : Prop := WP 7 0 206 42 [(0, vr 246), (2, vi l2), (3, vi l3), (4, vi l4), (5, vw l5)] [] σ Q
def R_closes_59 (l2 : Int) (l3 : Int) (l4 : Int) (σ : MS) (Q : MQ9) : Prop := WP 7 0 206 59 [(0, vr 246), (2, vi l2), (3, vi l3), (4, vi l4)] [] σ Q
def R_works (D : Nat) (l1 : Int) (l2 : Int) (l3 : Int) (σ : MS) (Q : MQ9) : Prop := WP (D + 60) 0 207 0 [(0, vr 246), (1, vi l1), (2, vi l2), (3, vi l3)] [] σ Q
def R_works_3 (D : Nat) (l2 : Int) (l3 : Int) (l4 : Int) (σ : MS) (Q : MQ9) : Prop := WP (D + 60) 0 207 3 [(0, vr 246), (2, vi l2), (3, vi l3), (4, vi l4)] [] σ Q
def R_works_122 (D : Nat) (l2 : Int) (l3 : Int) (l4 : Int) (l5 : Int) (σ : MS) (Q : MQ9) : Prop := WP (D + 60) 0 207 122 [(0, vr 246), (2, vi l2), (3, vi l3), (4, vi l4), (5, vw l5)] [] σ Q
def R_works_139 (D : Nat) (l2 : Int) (l3 : Int) (l4 : Int) (s1 : Int) (s2 : Int) (σ : MS) (Q : MQ9) : Prop := WP (D + 60) 0 207 139 [(0, vr 246), (2, vi l2), (3, vi l3), (4, vi l4)] [vw s2, vw s1, vr 246] σ Q
def R_group (D : Nat) (l1 : Int) (l2 : Int) (l3 : Int) (σ : MS) (Q : MQ9) : Prop := WP (D + 60) 0 208 0 [(0, vr 246), (1, vi l1), (2, vi l2), (3, vi l3)] [] σ Q
def R_escaped (D : Nat) (l1 : Int) (l2 : Int) (l3 : Int) (σ : MS) (Q : MQ9) : Prop := WP (D + 60) 0 209 0 [(0, vr 246), (1, vi l1), (2, vi l2), (3, vi l3)] [] σ Q
def R_escaped_57 (D : Nat) (l1 : Int) (s1 : Int) (σ : MS) (Q : MQ9) : Prop := WP (D + 60) 0 209 57 [(0, vr 246), (1, vi l1)] [vw s1, vr 246] σ Q
def R_argument (l1 : Int) (l2 : Int) (l3 : Int) (σ : MS) (Q : MQ9) : Prop := WP 9 0 210 0 [(0, vr 246), (1, vi l1), (2, vi l2), (3, vi l3)] [] σ Q
def R_argument_18 (l3 : Int) (s0 : Int) (σ : MS) (Q : MQ9) : Prop := WP 9 0 210 18 [(0, vr 246), (3, vi l3)] [vw s0] σ Q
def R_argument_53 (σ : MS) (Q : MQ9) : Prop := WP 9 0 210 53 [(0, vr 246)] [] σ Q
def R_argument_81 (l5 : Int) (l6 : Int) (σ : MS) (Q : MQ9) : Prop := WP 9 0 210 81 [(0, vr 246), (5, vi l5), (6, vi l6)] [] σ Q
def R_calls (D : Nat) (l1 : Int) (l2 : Int) (l3 : Int) (σ : MS) (Q : MQ9) : Prop := WP (D + 60) 0 211 0 [(0, vr 246), (1, vi l1), (2, vi l2), (3, vi l3)] [] σ Q
def R_calls_3 (D : Nat) (l1 : Int) (l2 : Int) (l3 : Int) (l4 : Int) (σ : MS) (Q : MQ9) : Prop := WP (D + 60) 0 211 3 [(0, vr 246), (1, vi l1), (2, vi l2), (3, vi l3), (4, vi l4)] [] σ Q
def R_calls_27 (D : Nat) (l1 : Int) (l2 : Int) (l3 : Int) (l4 : Int) (σ : MS) (Q : MQ9) : Prop := WP (D + 60) 0 211 27 [(0, vr 246), (1, vi l1), (2, vi l2), (3, vi l3), (4, vi l4)] [] σ Q
def R_calls_66 (D : Nat) (l2 : Int) (l3 : Int) (l4 : Int) (l5 : Int) (s0 : Int) (σ : MS) (Q : MQ9) : Prop := WP (D + 60) 0 211 66 [(0, vr 246), (2, vi l2), (3, vi l3), (4, vi l4), (5, vw l5)] [vw s0] σ Q
def R_calls_85 (D : Nat) (l2 : Int) (l3 : Int) (l4 : Int) (l5 : Int) (l6 : Int) (σ : MS) (Q : MQ9) : Prop := WP (D + 60) 0 211 85 [(0, vr 246), (2, vi l2), (3, vi l3), (4, vi l4), (5, vw l5), (6, vw l6)] [] σ Q
def R_calls_100 (D : Nat) (l2 : Int) (l3 : Int) (l4 : Int) (l5 : Int) (l6 : Int) (σ : MS) (Q : MQ9) : Prop := WP (D + 60) 0 211 100 [(0, vr 246), (2, vi l2), (3, vi l3), (4, vi l4), (5, vw l5), (6, vw l6)] [] σ Q
def R_calls_114 (D : Nat) (l2 : Int) (l3 : Int) (l4 : Int) (l5 : Int) (l6 : Int) (σ : MS) (Q : MQ9) : Prop := WP (D + 60) 0 211 114 [(0, vr 246), (2, vi l2), (3, vi l3), (4, vi l4), (5, vw l5), (6, vw l6)] [] σ Q
def R_calls_122 (D : Nat) (l2 : Int) (σ : MS) (Q : MQ9) : Prop := WP (D + 60) 0 211 122 [(0, vr 246), (2, vi l2)] [] σ Q
def R_calls_130 (D : Nat) (l2 : Int) (l3 : Int) (l4 : Int) (l5 : Int) (l6 : Int) (σ : MS) (Q : MQ9) : Prop := WP (D + 60) 0 211 130 [(0, vr 246), (2, vi l2), (3, vi l3), (4, vi l4), (5, vw l5), (6, vw l6)] [] σ Q
def R_calls_150 (D : Nat) (l2 : Int) (l3 : Int) (l4 : Int) (l5 : Int) (l6 : Int) (s0 : Int) (σ : MS) (Q : MQ9) : Prop := WP (D + 60) 0 211 150 [(0, vr 246), (2, vi l2), (3, vi l3), (4, vi l4), (5, vw l5), (6, vw l6)] [vw s0] σ Q
def R_calls_175 (D : Nat) (l2 : Int) (l3 : Int) (l5 : Int) (l6 : Int) (l7 : Int) (l8 : Int) (l9 : Int) (l10 : Int) (σ : MS) (Q : MQ9) : Prop := WP (D + 60) 0 211 175 [(0, vr 246), (2, vi l2), (3, vi l3), (5, vw l5), (6, vw l6), (7, vw l7), (8, vw l8), (9, vi l9), (10, vi l10)] [] σ Q
def R_calls_216 (D : Nat) (l2 : Int) (l3 : Int) (l5 : Int) (l6 : Int) (l7 : Int) (l8 : Int) (l9 : Int) (l10 : Int) (σ : MS) (Q : MQ9) : Prop := WP (D + 60) 0 211 216 [(0, vr 246), (2, vi l2), (3, vi l3), (5, vw l5), (6, vw l6), (7, vw l7), (8, vw l8), (9, vi l9), (10, vi l10)] [] σ Q
def R_calls_217 (D : Nat) (l2 : Int) (l3 : Int) (l5 : Int) (l6 : Int) (l7 : Int) (l8 : Int) (l9 : Int) (l10 : Int) (s0 : Int) (σ : MS) (Q : MQ9) : Prop := WP (D + 60) 0 211 217 [(0, vr 246), (2, vi l2), (3, vi l3), (5, vw l5), (6, vw l6), (7, vw l7), (8, vw l8), (9, vi l9), (10, vi l10)] [vw s0] σ Q
def R_calls_236 (D : Nat) (l2 : Int) (l3 : Int) (l5 : Int) (l6 : Int) (l7 : Int) (l8 : Int) (l9 : Int) (l10 : Int) (l11 : Int) (σ : MS) (Q : MQ9) : Prop := WP (D + 60) 0 211 236 [(0, vr 246), (2, vi l2), (3, vi l3), (5, vw l5), (6, vw l6), (7, vw l7), (8, vw l8), (9, vi l9), (10, vi l10), (11, vw l11)] [] σ Q
def R_calls_254 (D : Nat) (l2 : Int) (l3 : Int) (l5 : Int) (l6 : Int) (l7 : Int) (l8 : Int) (l9 : Int) (l10 : Int) (l11 : Int) (σ : MS) (Q : MQ9) : Prop := WP (D + 60) 0 211 254 [(0, vr 246), (2, vi l2), (3, vi l3), (5, vw l5), (6, vw l6), (7, vw l7), (8, vw l8), (9, vi l9), (10, vi l10), (11, vw l11)] [] σ Q
def R_calls_298 (D : Nat) (l3 : Int) (l5 : Int) (l6 : Int) (l7 : Int) (l8 : Int) (l9 : Int) (σ : MS) (Q : MQ9) : Prop := WP (D + 60) 0 211 298 [(0, vr 246), (3, vi l3), (5, vw l5), (6, vw l6), (7, vw l7), (8, vw l8), (9, vi l9)] [] σ Q
def R_calls_307 (D : Nat) (l3 : Int) (l5 : Int) (l6 : Int) (l7 : Int) (l8 : Int) (l9 : Int) (l10 : Int) (l11 : Int) (σ : MS) (Q : MQ9) : Prop := WP (D + 60) 0 211 307 [(0, vr 246), (3, vi l3), (5, vw l5), (6, vw l6), (7, vw l7), (8, vw l8), (9, vi l9), (10, vw l10), (11, vi l11)] [] σ Q
def R_calls_334 (D : Nat) (l3 : Int) (l5 : Int) (l6 : Int) (l7 : Int) (l8 : Int) (l9 : Int) (l10 : Int) (l11 : Int) (σ : MS) (Q : MQ9) : Prop := WP (D + 60) 0 211 334 [(0, vr 246), (3, vi l3), (5, vw l5), (6, vw l6), (7, vw l7), (8, vw l8), (9, vi l9), (10, vw l10), (11, vi l11)] [] σ Q
def R_calls_343 (D : Nat) (l3 : Int) (l5 : Int) (l6 : Int) (l7 : Int) (l8 : Int) (l9 : Int) (l10 : Int) (l11 : Int) (σ : MS) (Q : MQ9) : Prop := WP (D + 60) 0 211 343 [(0, vr 246), (3, vi l3), (5, vw l5), (6, vw l6), (7, vw l7), (8, vw l8), (9, vi l9), (10, vw l10), (11, vi l11)] [] σ Q
def R_calls_349 (D : Nat) (l3 : Int) (l5 : Int) (l6 : Int) (l7 : Int) (l8 : Int) (l9 : Int) (l10 : Int) (σ : MS) (Q : MQ9) : Prop := WP (D + 60) 0 211 349 [(0, vr 246), (3, vi l3), (5, vw l5), (6, vw l6), (7, vw l7), (8, vw l8), (9, vi l9), (10, vw l10)] [] σ Q
def R_calls_390 (D : Nat) (l9 : Int) (l10 : Int) (σ : MS) (Q : MQ9) : Prop := WP (D + 60) 0 211 390 [(0, vr 246), (9, vi l9), (10, vw l10)] [] σ Q
def R_takes (D : Nat) (l1 : Int) (l2 : Int) (l3 : Int) (σ : MS) (Q : MQ9) : Prop := WP (D + 60) 0 212 0 [(0, vr 246), (1, vi l1), (2, vi l2), (3, vi l3)] [] σ Q
def R_takes_99 (D : Nat) (l1 : Int) (l2 : Int) (l6 : Int) (l7 : Int) (σ : MS) (Q : MQ9) : Prop := WP (D + 60) 0 212 99 [(0, vr 246), (1, vi l1), (2, vi l2), (6, vw l6), (7, vi l7)] [] σ Q
def R_body (D : Nat) (l1 : Int) (l2 : Int) (σ : MS) (Q : MQ9) : Prop := WP (D + 60) 0 213 0 [(0, vr 246), (1, vi l1), (2, vi l2)] [] σ Q
def R_arg (l1 : Int) (σ : MS) (Q : MQ9) : Prop := WP 6 0 214 0 [(0, vr 246), (1, vi l1)] [] σ Q
def R_isNumber (l1 : Int) (l2 : Int) (l3 : Int) (σ : MS) (Q : MQ9) : Prop := WP 7 0 215 0 [(0, vr 246), (1, vi l1), (2, vi l2), (3, vi l3)] [] σ Q
def R_isNumber_34 (l1 : Int) (l2 : Int) (l3 : Int) (l4 : Int) (σ : MS) (Q : MQ9) : Prop := WP 7 0 215 34 [(0, vr 246), (1, vi l1), (2, vi l2), (3, vi l3), (4, vw l4)] [] σ Q
def R_isNumber_35 (l1 : Int) (l2 : Int) (l3 : Int) (l4 : Int) (s0 : Int) (σ : MS) (Q : MQ9) : Prop := WP 7 0 215 35 [(0, vr 246), (1, vi l1), (2, vi l2), (3, vi l3), (4, vw l4)] [vw s0] σ Q
def R_isNumber_45 (l1 : Int) (l2 : Int) (l3 : Int) (l4 : Int) (l5 : Int) (σ : MS) (Q : MQ9) : Prop := WP 7 0 215 45 [(0, vr 246), (1, vi l1), (2, vi l2), (3, vi l3), (4, vi l4), (5, vw l5)] [] σ Q
def R_isNumber_75 (l1 : Int) (l2 : Int) (l3 : Int) (l4 : Int) (l5 : Int) (l7 : Int) (σ : MS) (Q : MQ9) : Prop := WP 7 0 215 75 [(0, vr 246), (1, vi l1), (2, vi l2), (3, vi l3), (4, vi l4), (5, vw l5), (7, vw l7)] [] σ Q
def R_isNumber_76 (l1 : Int) (l2 : Int) (l3 : Int) (l4 : Int) (l5 : Int) (l7 : Int) (s0 : Int) (σ : MS) (Q : MQ9) : Prop := WP 7 0 215 76 [(0, vr 246), (1, vi l1), (2, vi l2), (3, vi l3), (4, vi l4), (5, vw l5), (7, vw l7)] [vw s0] σ Q
def R_isNumber_78 (l1 : Int) (l2 : Int) (l3 : Int) (l4 : Int) (l5 : Int) (l7 : Int) (l8 : Int) (σ : MS) (Q : MQ9) : Prop := WP 7 0 215 78 [(0, vr 246), (1, vi l1), (2, vi l2), (3, vi l3), (4, vi l4), (5, vw l5), (7, vi l7), (8, vw l8)] [] σ Q
def R_isNumber_128 (l2 : Int) (l3 : Int) (l5 : Int) (l7 : Int) (l8 : Int) (σ : MS) (Q : MQ9) : Prop := WP 7 0 215 128 [(0, vr 246), (2, vi l2), (3, vi l3), (5, vw l5), (7, vi l7), (8, vw l8)] [] σ Q
def R_isNumber_144 (l2 : Int) (l3 : Int) (l8 : Int) (s1 : Int) (σ : MS) (Q : MQ9) : Prop := WP 7 0 215 144 [(0, vr 246), (2, vi l2), (3, vi l3), (8, vw l8)] [vl s1, vr 246] σ Q
def R_isNumber_176 (σ : MS) (Q : MQ9) : Prop := WP 7 0 215 176 [(0, vr 246)] [] σ Q
def R_isNumber_177 (s0 : Int) (σ : MS) (Q : MQ9) : Prop := WP 7 0 215 177 [(0, vr 246)] [vw s0] σ Q
def R_isKey (l1 : Int) (σ : MS) (Q : MQ9) : Prop := WP 8 0 216 0 [(0, vr 246), (1, vi l1)] [] σ Q
def R_isKey_29 (l1 : Int) (σ : MS) (Q : MQ9) : Prop := WP 8 0 216 29 [(0, vr 246), (1, vi l1)] [] σ Q
def R_isKey_30 (l1 : Int) (s0 : Int) (σ : MS) (Q : MQ9) : Prop := WP 8 0 216 30 [(0, vr 246), (1, vi l1)] [vw s0] σ Q
def R_isKey_39 (l1 : Int) (l3 : Int) (l4 : Int) (σ : MS) (Q : MQ9) : Prop := WP 8 0 216 39 [(0, vr 246), (1, vi l1), (3, vw l3), (4, vi l4)] [] σ Q
def R_isKey_78 (l1 : Int) (l4 : Int) (σ : MS) (Q : MQ9) : Prop := WP 8 0 216 78 [(0, vr 246), (1, vi l1), (4, vi l4)] [] σ Q
def R_isKey_83 (l1 : Int) (l4 : Int) (s0 : Int) (σ : MS) (Q : MQ9) : Prop := WP 8 0 216 83 [(0, vr 246), (1, vi l1), (4, vi l4)] [vw s0] σ Q
def R_isKey_90 (l3 : Int) (σ : MS) (Q : MQ9) : Prop := WP 8 0 216 90 [(0, vr 246), (3, vw l3)] [] σ Q
def R_gives (D : Nat) (l1 : Int) (l2 : Int) (l3 : Int) (σ : MS) (Q : MQ9) : Prop := WP (D + 60) 0 217 0 [(0, vr 246), (1, vi l1), (2, vi l2), (3, vi l3)] [] σ Q
def R_gives_154 (D : Nat) (l4 : Int) (l6 : Int) (σ : MS) (Q : MQ9) : Prop := WP (D + 60) 0 217 154 [(0, vr 246), (4, vi l4), (6, vi l6)] [] σ Q
def R_gives_221 (D : Nat) (l5 : Int) (l6 : Int) (σ : MS) (Q : MQ9) : Prop := WP (D + 60) 0 217 221 [(0, vr 246), (5, vi l5), (6, vi l6)] [] σ Q
def R_gives_402 (D : Nat) (s1 : Int) (σ : MS) (Q : MQ9) : Prop := WP (D + 60) 0 217 402 [] [vl s1, vr 246] σ Q
def R_gives_490 (D : Nat) (l4 : Int) (s1 : Int) (σ : MS) (Q : MQ9) : Prop := WP (D + 60) 0 217 490 [(0, vr 246), (4, vi l4)] [vw s1, vr 246] σ Q
def R_gives_525 (D : Nat) (l3 : Int) (s0 : Int) (σ : MS) (Q : MQ9) : Prop := WP (D + 60) 0 217 525 [(0, vr 246), (3, vi l3)] [vi s0] σ Q
def R_gives_606 (D : Nat) (l4 : Int) (s1 : Int) (σ : MS) (Q : MQ9) : Prop := WP (D + 60) 0 217 606 [(4, vi l4)] [vw s1, vr 246] σ Q
def R_puts (l1 : Int) (l2 : Int) (σ : MS) (Q : MQ9) : Prop := WP 9 0 218 0 [(0, vr 246), (1, vi l1), (2, vi l2)] [] σ Q
def R_puts_2 (l2 : Int) (l3 : Int) (σ : MS) (Q : MQ9) : Prop := WP 9 0 218 2 [(0, vr 246), (2, vi l2), (3, vi l3)] [] σ Q
def R_cases (l1 : Int) (l2 : Int) (σ : MS) (Q : MQ9) : Prop := WP 9 0 219 0 [(0, vr 246), (1, vi l1), (2, vi l2)] [] σ Q
def R_cases_10 (l1 : Int) (l2 : Int) (l3 : Int) (l4 : Int) (σ : MS) (Q : MQ9) : Prop := WP 9 0 219 10 [(0, vr 246), (1, vi l1), (2, vi l2), (3, vw l3), (4, vi l4)] [] σ Q
def R_cases_58 (l1 : Int) (l2 : Int) (l4 : Int) (l5 : Int) (σ : MS) (Q : MQ9) : Prop := WP 9 0 219 58 [(0, vr 246), (1, vi l1), (2, vi l2), (4, vi l4), (5, vw l5)] [vr 246] σ Q
def R_cases_68 (l1 : Int) (l2 : Int) (l4 : Int) (l5 : Int) (s1 : Int) (σ : MS) (Q : MQ9) : Prop := WP 9 0 219 68 [(0, vr 246), (1, vi l1), (2, vi l2), (4, vi l4), (5, vw l5)] [vw s1, vr 246] σ Q
def R_rotated (l1 : Int) (l2 : Int) (σ : MS) (Q : MQ9) : Prop := WP 9 0 220 0 [(0, vr 246), (1, vi l1), (2, vi l2)] [] σ Q
def R_rotated_19 (l2 : Int) (l3 : Int) (l4 : Int) (σ : MS) (Q : MQ9) : Prop := WP 9 0 220 19 [(0, vr 246), (2, vi l2), (3, vw l3), (4, vi l4)] [] σ Q
def R_rotated_96 (l2 : Int) (l3 : Int) (l4 : Int) (s1 : Int) (σ : MS) (Q : MQ9) : Prop := WP 9 0 220 96 [(0, vr 246), (2, vi l2), (3, vw l3), (4, vi l4)] [vi s1, vr 246] σ Q
def R_part (l1 : Int) (σ : MS) (Q : MQ9) : Prop := WP 10 0 221 0 [(0, vr 246), (1, vi l1)] [] σ Q
def R_part_82 (l4 : Int) (s0 : Int) (σ : MS) (Q : MQ9) : Prop := WP 10 0 221 82 [(0, vr 246), (4, vi l4)] [vi s0] σ Q
def R_word (l1 : Int) (l2 : Int) (σ : MS) (Q : MQ9) : Prop := WP 10 0 222 0 [(0, vr 246), (1, vi l1), (2, vi l2)] [] σ Q
def R_word_10 (l1 : Int) (l2 : Int) (l3 : Int) (l4 : Int) (σ : MS) (Q : MQ9) : Prop := WP 10 0 222 10 [(0, vr 246), (1, vi l1), (2, vi l2), (3, vi l3), (4, vi l4)] [] σ Q
def R_word_24 (l1 : Int) (l2 : Int) (l3 : Int) (l4 : Int) (σ : MS) (Q : MQ9) : Prop := WP 10 0 222 24 [(0, vr 246), (1, vi l1), (2, vi l2), (3, vi l3), (4, vi l4)] [] σ Q
def R_word_50 (l1 : Int) (l2 : Int) (l3 : Int) (l4 : Int) (σ : MS) (Q : MQ9) : Prop := WP 10 0 222 50 [(0, vr 246), (1, vi l1), (2, vi l2), (3, vi l3), (4, vi l4)] [] σ Q
def R_word_53 (l1 : Int) (l2 : Int) (l3 : Int) (l4 : Int) (l5 : Int) (σ : MS) (Q : MQ9) : Prop := WP 10 0 222 53 [(0, vr 246), (1, vi l1), (2, vi l2), (3, vi l3), (4, vi l4), (5, vi l5)] [] σ Q
def R_word_79 (l1 : Int) (l2 : Int) (l3 : Int) (l4 : Int) (l5 : Int) (σ : MS) (Q : MQ9) : Prop := WP 10 0 222 79 [(0, vr 246), (1, vi l1), (2, vi l2), (3, vi l3), (4, vi l4), (5, vi l5)] [] σ Q
def R_word_99 (l1 : Int) (l2 : Int) (l3 : Int) (l4 : Int) (σ : MS) (Q : MQ9) : Prop := WP 10 0 222 99 [(0, vr 246), (1, vi l1), (2, vi l2), (3, vi l3), (4, vi l4)] [] σ Q
def R_placeOf (l1 : Int) (l2 : Int) (σ : MS) (Q : MQ9) : Prop := WP 7 0 223 0 [(0, vr 246), (1, vi l1), (2, vi l2)] [] σ Q
def R_placeOf_17 (l1 : Int) (l2 : Int) (l3 : Int) (l4 : Int) (σ : MS) (Q : MQ9) : Prop := WP 7 0 223 17 [(0, vr 246), (1, vi l1), (2, vi l2), (3, vi l3), (4, vi l4)] [] σ Q
def R_placeOf_43 (l1 : Int) (l2 : Int) (l3 : Int) (l4 : Int) (l5 : Int) (l6 : Int) (σ : MS) (Q : MQ9) : Prop := WP 7 0 223 43 [(0, vr 246), (1, vi l1), (2, vi l2), (3, vi l3), (4, vi l4), (5, vw l5), (6, vi l6)] [] σ Q
def R_placeOf_97 (l1 : Int) (l2 : Int) (l3 : Int) (l4 : Int) (l6 : Int) (s0 : Int) (σ : MS) (Q : MQ9) : Prop := WP 7 0 223 97 [(0, vr 246), (1, vi l1), (2, vi l2), (3, vi l3), (4, vi l4), (6, vi l6)] [vw s0] σ Q
def R_placeOf_105 (l1 : Int) (l2 : Int) (l3 : Int) (l4 : Int) (l5 : Int) (σ : MS) (Q : MQ9) : Prop := WP 7 0 223 105 [(0, vr 246), (1, vi l1), (2, vi l2), (3, vi l3), (4, vi l4), (5, vw l5)] [] σ Q
def R_areAlike (l1 : Int) (l2 : Int) (σ : MS) (Q : MQ9) : Prop := WP 7 0 224 0 [(0, vr 246), (1, vi l1), (2, vi l2)] [] σ Q
def R_areAlike_36 (l1 : Int) (l2 : Int) (l3 : Int) (s0 : Int) (σ : MS) (Q : MQ9) : Prop := WP 7 0 224 36 [(0, vr 246), (1, vi l1), (2, vi l2), (3, vi l3)] [vw s0] σ Q
def R_areAlike_41 (l1 : Int) (l2 : Int) (l3 : Int) (l4 : Int) (l5 : Int) (σ : MS) (Q : MQ9) : Prop := WP 7 0 224 41 [(0, vr 246), (1, vi l1), (2, vi l2), (3, vi l3), (4, vw l4), (5, vi l5)] [] σ Q
def R_areAlike_92 (l1 : Int) (l2 : Int) (l3 : Int) (l5 : Int) (s0 : Int) (σ : MS) (Q : MQ9) : Prop := WP 7 0 224 92 [(0, vr 246), (1, vi l1), (2, vi l2), (3, vi l3), (5, vi l5)] [vw s0] σ Q
def R_told (l1 : Int) (l3 : Int) (σ : MS) (Q : MQ9) : Prop := WP 10 0 225 0 [(0, vr 246), (1, vl l1), (3, vi l3)] [] σ Q
def R_small (l1 : Int) (σ : MS) (Q : MQ9) : Prop := WP 6 0 226 0 [(0, vr 246), (1, vi l1)] [] σ Q
def R_writes (l1 : Int) (l3 : Int) (σ : MS) (Q : MQ9) : Prop := WP 8 0 227 0 [(0, vr 246), (1, vl l1), (3, vi l3)] [] σ Q
def R_writes_15 (l1 : Int) (l3 : Int) (σ : MS) (Q : MQ9) : Prop := WP 8 0 227 15 [(0, vr 246), (1, vl l1), (3, vi l3)] [] σ Q
def R_writes_40 (l1 : Int) (s0 : Int) (σ : MS) (Q : MQ9) : Prop := WP 8 0 227 40 [(0, vr 246), (1, vl l1)] [vw s0] σ Q
def R_writes_118 (l1 : Int) (l3 : Int) (σ : MS) (Q : MQ9) : Prop := WP 8 0 227 118 [(0, vr 246), (1, vl l1), (3, vi l3)] [] σ Q
def R_writes_132 (l4 : Int) (σ : MS) (Q : MQ9) : Prop := WP 8 0 227 132 [(0, vr 246), (4, vl l4)] [] σ Q
def R_writes_174 (l1 : Int) (l3 : Int) (σ : MS) (Q : MQ9) : Prop := WP 8 0 227 174 [(0, vr 246), (1, vl l1), (3, vi l3)] [] σ Q
def R_writes_186 (l1 : Int) (s0 : Int) (σ : MS) (Q : MQ9) : Prop := WP 8 0 227 186 [(0, vr 246), (1, vl l1)] [vw s0] σ Q
def R_writes_200 (l1 : Int) (l4 : Int) (s0 : Int) (σ : MS) (Q : MQ9) : Prop := WP 8 0 227 200 [(0, vr 246), (1, vl l1), (4, vw l4)] [vl s0] σ Q
def R_writes_214 (l4 : Int) (l5 : Int) (σ : MS) (Q : MQ9) : Prop := WP 8 0 227 214 [(0, vr 246), (4, vw l4), (5, vl l5)] [] σ Q
def R_writes_220 (l4 : Int) (l5 : Int) (l7 : Int) (σ : MS) (Q : MQ9) : Prop := WP 8 0 227 220 [(0, vr 246), (4, vw l4), (5, vl l5), (7, vw l7)] [] σ Q
def R_writes_253 (l4 : Int) (l5 : Int) (l7 : Int) (s1 : Int) (σ : MS) (Q : MQ9) : Prop := WP 8 0 227 253 [(0, vr 246), (4, vw l4), (5, vl l5), (7, vw l7)] [vi s1, vr 246] σ Q
def R_turned (l1 : Int) (σ : MS) (Q : MQ9) : Prop := WP 6 0 228 0 [(0, vr 246), (1, vi l1)] [] σ Q
def R_turned_9 (l2 : Int) (l3 : Int) (σ : MS) (Q : MQ9) : Prop := WP 6 0 228 9 [(0, vr 246), (2, vi l2), (3, vi l3)] [] σ Q
def R_roman (l1 : Int) (l2 : Int) (l3 : Int) (l4 : Int) (l5 : Int) (σ : MS) (Q : MQ9) : Prop := WP 7 0 229 0 [(0, vr 246), (1, vi l1), (2, vi l2), (3, vi l3), (4, vi l4), (5, vi l5)] [] σ Q
def R_roman_11 (l1 : Int) (l2 : Int) (l3 : Int) (l4 : Int) (l5 : Int) (σ : MS) (Q : MQ9) : Prop := WP 7 0 229 11 [(0, vr 246), (1, vi l1), (2, vi l2), (3, vi l3), (4, vi l4), (5, vi l5)] [] σ Q
def R_roman_32 (l5 : Int) (s1 : Int) (σ : MS) (Q : MQ9) : Prop := WP 7 0 229 32 [(5, vi l5)] [vi s1, vr 246] σ Q
def R_roman_52 (l1 : Int) (l2 : Int) (l5 : Int) (σ : MS) (Q : MQ9) : Prop := WP 7 0 229 52 [(0, vr 246), (1, vi l1), (2, vi l2), (5, vi l5)] [] σ Q
def R_roman_57 (l2 : Int) (l5 : Int) (l6 : Int) (σ : MS) (Q : MQ9) : Prop := WP 7 0 229 57 [(0, vr 246), (2, vi l2), (5, vi l5), (6, vi l6)] [] σ Q
def R_counts (l1 : Int) (l2 : Int) (l3 : Int) (σ : MS) (Q : MQ9) : Prop := WP 11 0 230 0 [(0, vr 246), (1, vi l1), (2, vi l2), (3, vi l3)] [] σ Q
def R_counts_21 (l1 : Int) (l2 : Int) (l3 : Int) (l4 : Int) (l5 : Int) (l6 : Int) (σ : MS) (Q : MQ9) : Prop := WP 11 0 230 21 [(0, vr 246), (1, vi l1), (2, vi l2), (3, vi l3), (4, vi l4), (5, vi l5), (6, vi l6)] [] σ Q
def R_counts_52 (l1 : Int) (l2 : Int) (l3 : Int) (l4 : Int) (l5 : Int) (l6 : Int) (s0 : Int) (σ : MS) (Q : MQ9) : Prop := WP 11 0 230 52 [(0, vr 246), (1, vi l1), (2, vi l2), (3, vi l3), (4, vi l4), (5, vi l5), (6, vi l6)] [vw s0] σ Q
def R_counts_57 (l1 : Int) (l2 : Int) (l3 : Int) (l4 : Int) (l5 : Int) (l6 : Int) (l7 : Int) (l8 : Int) (σ : MS) (Q : MQ9) : Prop := WP 11 0 230 57 [(0, vr 246), (1, vi l1), (2, vi l2), (3, vi l3), (4, vi l4), (5, vi l5), (6, vi l6), (7, vw l7), (8, vi l8)] [] σ Q
def R_counts_104 (l1 : Int) (l2 : Int) (l3 : Int) (l4 : Int) (l5 : Int) (l6 : Int) (l8 : Int) (s0 : Int) (σ : MS) (Q : MQ9) : Prop := WP 11 0 230 104 [(0, vr 246), (1, vi l1), (2, vi l2), (3, vi l3), (4, vi l4), (5, vi l5), (6, vi l6), (8, vi l8)] [vw s0] σ Q
def R_counts_112 (l1 : Int) (l2 : Int) (l3 : Int) (l4 : Int) (l5 : Int) (l6 : Int) (l7 : Int) (σ : MS) (Q : MQ9) : Prop := WP 11 0 230 112 [(0, vr 246), (1, vi l1), (2, vi l2), (3, vi l3), (4, vi l4), (5, vi l5), (6, vi l6), (7, vw l7)] [] σ Q
def R_counts_121 (l1 : Int) (l2 : Int) (l3 : Int) (l4 : Int) (l5 : Int) (l6 : Int) (σ : MS) (Q : MQ9) : Prop := WP 11 0 230 121 [(0, vr 246), (1, vi l1), (2, vi l2), (3, vi l3), (4, vi l4), (5, vi l5), (6, vi l6)] [] σ Q
def R_counts_127 (l1 : Int) (l2 : Int) (l3 : Int) (l4 : Int) (l5 : Int) (σ : MS) (Q : MQ9) : Prop := WP 11 0 230 127 [(0, vr 246), (1, vi l1), (2, vi l2), (3, vi l3), (4, vi l4), (5, vi l5)] [] σ Q
def R_counts_188 (l1 : Int) (l2 : Int) (l3 : Int) (l4 : Int) (l5 : Int) (l6 : Int) (σ : MS) (Q : MQ9) : Prop := WP 11 0 230 188 [(0, vr 246), (1, vi l1), (2, vi l2), (3, vi l3), (4, vi l4), (5, vw l5), (6, vi l6)] [] σ Q
def R_counts_228 (l1 : Int) (l3 : Int) (l5 : Int) (σ : MS) (Q : MQ9) : Prop := WP 11 0 230 228 [(0, vr 246), (1, vi l1), (3, vi l3), (5, vi l5)] [] σ Q
def R_counts_243 (l3 : Int) (l5 : Int) (σ : MS) (Q : MQ9) : Prop := WP 11 0 230 243 [(0, vr 246), (3, vi l3), (5, vi l5)] [] σ Q
def R_counts_261 (l3 : Int) (s1 : Int) (σ : MS) (Q : MQ9) : Prop := WP 11 0 230 261 [(3, vi l3)] [vl s1, vr 246] σ Q
def R_latest (σ : MS) (Q : MQ9) : Prop := WP 7 0 231 0 [(0, vr 246)] [] σ Q
def R_latest_7 (l1 : Int) (σ : MS) (Q : MQ9) : Prop := WP 7 0 231 7 [(0, vr 246), (1, vi l1)] [] σ Q
def R_waits (l1 : Int) (l2 : Int) (l3 : Int) (σ : MS) (Q : MQ9) : Prop := WP 6 0 232 0 [(0, vr 246), (1, vi l1), (2, vi l2), (3, vi l3)] [] σ Q
def R_note (l1 : Int) (σ : MS) (Q : MQ9) : Prop := WP 11 0 233 0 [(0, vr 246), (1, vi l1)] [] σ Q
def R_note_48 (l1 : Int) (l2 : Int) (l3 : Int) (σ : MS) (Q : MQ9) : Prop := WP 11 0 233 48 [(0, vr 246), (1, vi l1), (2, vw l2), (3, vi l3)] [] σ Q
def R_labelOf (l1 : Int) (l2 : Int) (l3 : Int) (σ : MS) (Q : MQ9) : Prop := WP 6 0 234 0 [(0, vr 246), (1, vi l1), (2, vi l2), (3, vi l3)] [] σ Q
def R_labelOf_3 (l1 : Int) (l2 : Int) (l3 : Int) (l4 : Int) (σ : MS) (Q : MQ9) : Prop := WP 6 0 234 3 [(0, vr 246), (1, vi l1), (2, vi l2), (3, vi l3), (4, vi l4)] [] σ Q
def R_labelOf_39 (l1 : Int) (l2 : Int) (l3 : Int) (l4 : Int) (l5 : Int) (s0 : Int) (σ : MS) (Q : MQ9) : Prop := WP 6 0 234 39 [(0, vr 246), (1, vi l1), (2, vi l2), (3, vi l3), (4, vi l4), (5, vi l5)] [vw s0] σ Q
def R_labelOf_44 (l1 : Int) (l2 : Int) (l3 : Int) (l4 : Int) (l5 : Int) (l6 : Int) (l7 : Int) (σ : MS) (Q : MQ9) : Prop := WP 6 0 234 44 [(0, vr 246), (1, vi l1), (2, vi l2), (3, vi l3), (4, vi l4), (5, vi l5), (6, vw l6), (7, vi l7)] [] σ Q
def R_labelOf_85 (l1 : Int) (l2 : Int) (l3 : Int) (l4 : Int) (l5 : Int) (l7 : Int) (s0 : Int) (σ : MS) (Q : MQ9) : Prop := WP 6 0 234 85 [(0, vr 246), (1, vi l1), (2, vi l2), (3, vi l3), (4, vi l4), (5, vi l5), (7, vi l7)] [vw s0] σ Q
def R_labelOf_93 (l1 : Int) (l2 : Int) (l3 : Int) (l4 : Int) (l5 : Int) (l6 : Int) (σ : MS) (Q : MQ9) : Prop := WP 6 0 234 93 [(0, vr 246), (1, vi l1), (2, vi l2), (3, vi l3), (4, vi l4), (5, vi l5), (6, vw l6)] [] σ Q
def R_label (l1 : Int) (σ : MS) (Q : MQ9) : Prop := WP 8 0 235 0 [(0, vr 246), (1, vi l1)] [] σ Q
def R_label_88 (l1 : Int) (l2 : Int) (l3 : Int) (l4 : Int) (σ : MS) (Q : MQ9) : Prop := WP 8 0 235 88 [(0, vr 246), (1, vi l1), (2, vi l2), (3, vi l3), (4, vi l4)] [] σ Q
def R_label_139 (l3 : Int) (l4 : Int) (σ : MS) (Q : MQ9) : Prop := WP 8 0 235 139 [(0, vr 246), (3, vi l3), (4, vi l4)] [] σ Q
def R_index (l1 : Int) (σ : MS) (Q : MQ9) : Prop := WP 8 0 236 0 [(0, vr 246), (1, vi l1)] [] σ Q
def R_index_12 (l1 : Int) (l2 : Int) (l3 : Int) (l4 : Int) (σ : MS) (Q : MQ9) : Prop := WP 8 0 236 12 [(0, vr 246), (1, vi l1), (2, vw l2), (3, vw l3), (4, vi l4)] [] σ Q
def R_index_38 (l1 : Int) (l2 : Int) (l4 : Int) (σ : MS) (Q : MQ9) : Prop := WP 8 0 236 38 [(0, vr 246), (1, vi l1), (2, vw l2), (4, vi l4)] [] σ Q
def R_index_43 (l1 : Int) (l2 : Int) (l4 : Int) (s0 : Int) (σ : MS) (Q : MQ9) : Prop := WP 8 0 236 43 [(0, vr 246), (1, vi l1), (2, vw l2), (4, vi l4)] [vw s0] σ Q
def R_index_114 (l1 : Int) (l2 : Int) (l4 : Int) (l5 : Int) (σ : MS) (Q : MQ9) : Prop := WP 8 0 236 114 [(0, vr 246), (1, vi l1), (2, vi l2), (4, vi l4), (5, vw l5)] [] σ Q
def R_index_124 (l1 : Int) (l2 : Int) (l4 : Int) (l5 : Int) (σ : MS) (Q : MQ9) : Prop := WP 8 0 236 124 [(0, vr 246), (1, vi l1), (2, vi l2), (4, vi l4), (5, vw l5)] [] σ Q
def R_index_150 (l1 : Int) (l2 : Int) (l4 : Int) (l5 : Int) (σ : MS) (Q : MQ9) : Prop := WP 8 0 236 150 [(0, vr 246), (1, vi l1), (2, vi l2), (4, vi l4), (5, vw l5)] [] σ Q
def R_index_186 (l1 : Int) (l2 : Int) (l4 : Int) (σ : MS) (Q : MQ9) : Prop := WP 8 0 236 186 [(0, vr 246), (1, vi l1), (2, vi l2), (4, vi l4)] [] σ Q
def R_index_189 (l1 : Int) (l2 : Int) (l4 : Int) (l5 : Int) (σ : MS) (Q : MQ9) : Prop := WP 8 0 236 189 [(0, vr 246), (1, vi l1), (2, vi l2), (4, vi l4), (5, vw l5)] [] σ Q
def R_index_240 (l4 : Int) (σ : MS) (Q : MQ9) : Prop := WP 8 0 236 240 [(0, vr 246), (4, vi l4)] [] σ Q
def R_refers (l1 : Int) (l2 : Int) (σ : MS) (Q : MQ9) : Prop := WP 11 0 237 0 [(0, vr 246), (1, vi l1), (2, vi l2)] [] σ Q
def R_refers_98 (l4 : Int) (l5 : Int) (σ : MS) (Q : MQ9) : Prop := WP 11 0 237 98 [(0, vr 246), (4, vw l4), (5, vi l5)] [] σ Q
def R_directive (l1 : Int) (l2 : Int) (σ : MS) (Q : MQ9) : Prop := WP 12 0 238 0 [(0, vr 246), (1, vi l1), (2, vi l2)] [] σ Q
def R_directive_4 (l1 : Int) (l2 : Int) (l3 : Int) (σ : MS) (Q : MQ9) : Prop := WP 12 0 238 4 [(0, vr 246), (1, vi l1), (2, vi l2), (3, vi l3)] [] σ Q
def R_directive_26 (l1 : Int) (l2 : Int) (l3 : Int) (σ : MS) (Q : MQ9) : Prop := WP 12 0 238 26 [(0, vr 246), (1, vi l1), (2, vi l2), (3, vi l3)] [] σ Q
def R_directive_197 (l4 : Int) (σ : MS) (Q : MQ9) : Prop := WP 12 0 238 197 [(0, vr 246), (4, vw l4)] [] σ Q
def R_isWord (l1 : Int) (l2 : Int) (l3 : Nat) (σ : MS) (Q : MQ9) : Prop := WP 7 0 239 0 [(0, vr 246), (1, vi l1), (2, vi l2), (3, vr l3)] [] σ Q
def R_cuts (σ : MS) (Q : MQ9) : Prop := WP 6 0 240 0 [(0, vr 246)] [] σ Q
def R_defines (l1 : Int) (l2 : Int) (σ : MS) (Q : MQ9) : Prop := WP 8 0 241 0 [(0, vr 246), (1, vi l1), (2, vi l2)] [] σ Q
def R_defines_7 (l1 : Int) (l2 : Int) (l3 : Int) (l4 : Int) (σ : MS) (Q : MQ9) : Prop := WP 8 0 241 7 [(0, vr 246), (1, vi l1), (2, vi l2), (3, vi l3), (4, vi l4)] [] σ Q
def R_defines_32 (l1 : Int) (l2 : Int) (l3 : Int) (l4 : Int) (σ : MS) (Q : MQ9) : Prop := WP 8 0 241 32 [(0, vr 246), (1, vi l1), (2, vi l2), (3, vi l3), (4, vi l4)] [] σ Q
def R_defines_128 (l2 : Int) (l3 : Int) (l4 : Int) (σ : MS) (Q : MQ9) : Prop := WP 8 0 241 128 [(0, vr 246), (2, vi l2), (3, vi l3), (4, vi l4)] [] σ Q
def R_defines_175 (l2 : Int) (l3 : Int) (l4 : Int) (l5 : Int) (σ : MS) (Q : MQ9) : Prop := WP 8 0 241 175 [(0, vr 246), (2, vi l2), (3, vi l3), (4, vi l4), (5, vw l5)] [] σ Q
def R_defines_189 (l2 : Int) (l3 : Int) (l4 : Int) (l5 : Int) (l6 : Int) (σ : MS) (Q : MQ9) : Prop := WP 8 0 241 189 [(0, vr 246), (2, vi l2), (3, vi l3), (4, vi l4), (5, vw l5), (6, vi l6)] [] σ Q
def R_defines_267 (l2 : Int) (l5 : Int) (s1 : Int) (s2 : Int) (σ : MS) (Q : MQ9) : Prop := WP 8 0 241 267 [(0, vr 246), (2, vi l2), (5, vw l5)] [vi s2, vw s1, vr 267] σ Q
def R_sets (l1 : Int) (l2 : Int) (σ : MS) (Q : MQ9) : Prop := WP 7 0 242 0 [(0, vr 246), (1, vi l1), (2, vi l2)] [] σ Q
def R_sets_7 (l1 : Int) (l2 : Int) (l3 : Int) (l4 : Int) (σ : MS) (Q : MQ9) : Prop := WP 7 0 242 7 [(0, vr 246), (1, vi l1), (2, vi l2), (3, vi l3), (4, vi l4)] [] σ Q
def R_sets_31 (l1 : Int) (l2 : Int) (l3 : Int) (l4 : Int) (σ : MS) (Q : MQ9) : Prop := WP 7 0 242 31 [(0, vr 246), (1, vi l1), (2, vi l2), (3, vi l3), (4, vi l4)] [] σ Q
def R_sets_50 (l2 : Int) (l4 : Int) (s0 : Int) (σ : MS) (Q : MQ9) : Prop := WP 7 0 242 50 [(0, vr 246), (2, vi l2), (4, vi l4)] [vw s0] σ Q
def R_sets_88 (l2 : Int) (l5 : Int) (l7 : Int) (l8 : Int) (σ : MS) (Q : MQ9) : Prop := WP 7 0 242 88 [(0, vr 246), (2, vi l2), (5, vw l5), (7, vi l7), (8, vi l8)] [] σ Q
def R_isPattern (l1 : Int) (l2 : Int) (σ : MS) (Q : MQ9) : Prop := WP 7 0 243 0 [(0, vr 246), (1, vi l1), (2, vi l2)] [] σ Q
def R_isPattern_5 (l1 : Int) (l2 : Int) (l3 : Int) (l4 : Int) (σ : MS) (Q : MQ9) : Prop := WP 7 0 243 5 [(0, vr 246), (1, vi l1), (2, vi l2), (3, vw l3), (4, vi l4)] [] σ Q
def R_isPattern_45 (l1 : Int) (l2 : Int) (l3 : Int) (l4 : Int) (l5 : Int) (σ : MS) (Q : MQ9) : Prop := WP 7 0 243 45 [(0, vr 246), (1, vi l1), (2, vi l2), (3, vw l3), (4, vi l4), (5, vw l5)] [] σ Q
def R_isPattern_76 (l1 : Int) (l2 : Int) (l3 : Int) (l4 : Int) (l5 : Int) (σ : MS) (Q : MQ9) : Prop := WP 7 0 243 76 [(0, vr 246), (1, vi l1), (2, vi l2), (3, vw l3), (4, vi l4), (5, vw l5)] [] σ Q
def R_isPattern_88 (l1 : Int) (l2 : Int) (l4 : Int) (σ : MS) (Q : MQ9) : Prop := WP 7 0 243 88 [(0, vr 246), (1, vi l1), (2, vi l2), (4, vi l4)] [] σ Q
def R_isPattern_93 (l1 : Int) (l2 : Int) (l4 : Int) (s0 : Int) (σ : MS) (Q : MQ9) : Prop := WP 7 0 243 93 [(0, vr 246), (1, vi l1), (2, vi l2), (4, vi l4)] [vw s0] σ Q
def R_isException (l1 : Int) (l2 : Int) (σ : MS) (Q : MQ9) : Prop := WP 7 0 244 0 [(0, vr 246), (1, vi l1), (2, vi l2)] [] σ Q
def R_isException_43 (l2 : Int) (l3 : Int) (σ : MS) (Q : MQ9) : Prop := WP 7 0 244 43 [(0, vr 246), (2, vi l2), (3, vi l3)] [] σ Q
def R_isException_71 (l2 : Int) (l3 : Int) (σ : MS) (Q : MQ9) : Prop := WP 7 0 244 71 [(0, vr 246), (2, vi l2), (3, vi l3)] [] σ Q
def R_isException_97 (l2 : Int) (l3 : Int) (σ : MS) (Q : MQ9) : Prop := WP 7 0 244 97 [(0, vr 246), (2, vi l2), (3, vi l3)] [] σ Q
def R_listed (l1 : Int) (l2 : Int) (l3 : Int) (σ : MS) (Q : MQ9) : Prop := WP 8 0 245 0 [(0, vr 246), (1, vi l1), (2, vi l2), (3, vi l3)] [] σ Q
def R_listed_6 (l1 : Int) (l2 : Int) (l3 : Int) (l4 : Int) (l5 : Int) (σ : MS) (Q : MQ9) : Prop := WP 8 0 245 6 [(0, vr 246), (1, vi l1), (2, vi l2), (3, vi l3), (4, vi l4), (5, vi l5)] [] σ Q
def R_listed_22 (l1 : Int) (l2 : Int) (l3 : Int) (l4 : Int) (l6 : Int) (l7 : Int) (σ : MS) (Q : MQ9) : Prop := WP 8 0 245 22 [(0, vr 246), (1, vi l1), (2, vi l2), (3, vi l3), (4, vi l4), (6, vi l6), (7, vi l7)] [] σ Q
def R_listed_46 (l1 : Int) (l2 : Int) (l3 : Int) (l4 : Int) (l6 : Int) (l7 : Int) (σ : MS) (Q : MQ9) : Prop := WP 8 0 245 46 [(0, vr 246), (1, vi l1), (2, vi l2), (3, vi l3), (4, vi l4), (6, vi l6), (7, vi l7)] [] σ Q
def R_listed_84 (l1 : Int) (l2 : Int) (l3 : Int) (l4 : Int) (l7 : Int) (σ : MS) (Q : MQ9) : Prop := WP 8 0 245 84 [(0, vr 246), (1, vi l1), (2, vi l2), (3, vi l3), (4, vi l4), (7, vi l7)] [] σ Q
def R_listed_104 (l2 : Int) (l3 : Int) (l5 : Int) (σ : MS) (Q : MQ9) : Prop := WP 8 0 245 104 [(0, vr 246), (2, vi l2), (3, vi l3), (5, vi l5)] [] σ Q
def R_listed_127 (l2 : Int) (l3 : Int) (l6 : Int) (l7 : Int) (σ : MS) (Q : MQ9) : Prop := WP 8 0 245 127 [(0, vr 246), (2, vi l2), (3, vi l3), (6, vi l6), (7, vi l7)] [] σ Q
def R_listed_151 (l2 : Int) (l3 : Int) (l6 : Int) (l7 : Int) (σ : MS) (Q : MQ9) : Prop := WP 8 0 245 151 [(0, vr 246), (2, vi l2), (3, vi l3), (6, vi l6), (7, vi l7)] [] σ Q
def R_listed_176 (l2 : Int) (l3 : Int) (l7 : Int) (σ : MS) (Q : MQ9) : Prop := WP 8 0 245 176 [(0, vr 246), (2, vi l2), (3, vi l3), (7, vi l7)] [] σ Q
def R_listed_185 (l2 : Int) (l3 : Int) (l6 : Int) (l7 : Int) (σ : MS) (Q : MQ9) : Prop := WP 8 0 245 185 [(0, vr 246), (2, vi l2), (3, vi l3), (6, vi l6), (7, vi l7)] [] σ Q
def R_listed_209 (l2 : Int) (l3 : Int) (l6 : Int) (l7 : Int) (σ : MS) (Q : MQ9) : Prop := WP 8 0 245 209 [(0, vr 246), (2, vi l2), (3, vi l3), (6, vi l6), (7, vi l7)] [] σ Q
def R_listed_224 (l2 : Int) (l3 : Int) (l7 : Int) (σ : MS) (Q : MQ9) : Prop := WP 8 0 245 224 [(0, vr 246), (2, vi l2), (3, vi l3), (7, vi l7)] [] σ Q
def R_keepPattern (l1 : Int) (l2 : Int) (σ : MS) (Q : MQ9) : Prop := WP 7 0 246 0 [(0, vr 246), (1, vi l1), (2, vi l2)] [] σ Q
def R_keepPattern_5 (l1 : Int) (l2 : Int) (l3 : Int) (l4 : Int) (σ : MS) (Q : MQ9) : Prop := WP 7 0 246 5 [(0, vr 246), (1, vi l1), (2, vi l2), (3, vw l3), (4, vi l4)] [] σ Q
def R_keepPattern_37 (l2 : Int) (l3 : Int) (l4 : Int) (σ : MS) (Q : MQ9) : Prop := WP 7 0 246 37 [(0, vr 246), (2, vi l2), (3, vi l3), (4, vi l4)] [] σ Q
def R_keepPattern_108 (l2 : Int) (l3 : Int) (l4 : Int) (σ : MS) (Q : MQ9) : Prop := WP 7 0 246 108 [(0, vr 246), (2, vi l2), (3, vi l3), (4, vi l4)] [] σ Q
def R_keepException (l1 : Int) (l2 : Int) (σ : MS) (Q : MQ9) : Prop := WP 6 0 247 0 [(0, vr 246), (1, vi l1), (2, vi l2)] [] σ Q
def R_keepException_5 (l1 : Int) (l2 : Int) (l3 : Int) (l4 : Int) (σ : MS) (Q : MQ9) : Prop := WP 6 0 247 5 [(0, vr 246), (1, vi l1), (2, vi l2), (3, vw l3), (4, vi l4)] [] σ Q
def R_keepException_37 (l2 : Int) (l3 : Int) (l4 : Int) (σ : MS) (Q : MQ9) : Prop := WP 6 0 247 37 [(0, vr 246), (2, vi l2), (3, vi l3), (4, vi l4)] [] σ Q
def R_keepException_97 (l2 : Int) (l3 : Int) (l4 : Int) (σ : MS) (Q : MQ9) : Prop := WP 6 0 247 97 [(0, vr 246), (2, vi l2), (3, vi l3), (4, vi l4)] [] σ Q
def R_letters (l1 : Int) (l2 : Int) (l3 : Int) (l4 : Int) (σ : MS) (Q : MQ9) : Prop := WP 8 0 248 0 [(0, vr 246), (1, vi l1), (2, vi l2), (3, vi l3), (4, vi l4)] [] σ Q
def R_letters_15 (l1 : Int) (l2 : Int) (l3 : Int) (l4 : Int) (l5 : Int) (σ : MS) (Q : MQ9) : Prop := WP 8 0 248 15 [(0, vr 246), (1, vi l1), (2, vi l2), (3, vi l3), (4, vi l4), (5, vi l5)] [] σ Q
def R_letters_36 (l1 : Int) (l2 : Int) (l3 : Int) (l4 : Int) (l5 : Int) (s0 : Int) (σ : MS) (Q : MQ9) : Prop := WP 8 0 248 36 [(0, vr 246), (1, vi l1), (2, vi l2), (3, vi l3), (4, vi l4), (5, vi l5)] [vw s0] σ Q
def R_letters_41 (l1 : Int) (l2 : Int) (l3 : Int) (l4 : Int) (l5 : Int) (l6 : Int) (l7 : Int) (σ : MS) (Q : MQ9) : Prop := WP 8 0 248 41 [(0, vr 246), (1, vi l1), (2, vi l2), (3, vi l3), (4, vi l4), (5, vi l5), (6, vw l6), (7, vi l7)] [] σ Q
def R_letters_84 (l1 : Int) (l2 : Int) (l3 : Int) (l4 : Int) (l5 : Int) (l7 : Int) (s0 : Int) (σ : MS) (Q : MQ9) : Prop := WP 8 0 248 84 [(0, vr 246), (1, vi l1), (2, vi l2), (3, vi l3), (4, vi l4), (5, vi l5), (7, vi l7)] [vw s0] σ Q
def R_letters_92 (l1 : Int) (l2 : Int) (l3 : Int) (l4 : Int) (l5 : Int) (l6 : Int) (σ : MS) (Q : MQ9) : Prop := WP 8 0 248 92 [(0, vr 246), (1, vi l1), (2, vi l2), (3, vi l3), (4, vi l4), (5, vi l5), (6, vw l6)] [] σ Q
def R_letters_103 (l1 : Int) (l2 : Int) (l5 : Int) (l7 : Int) (σ : MS) (Q : MQ9) : Prop := WP 8 0 248 103 [(0, vr 246), (1, vi l1), (2, vi l2), (5, vi l5), (7, vi l7)] [] σ Q
def R_letters_135 (l1 : Int) (l2 : Int) (l5 : Int) (l7 : Int) (σ : MS) (Q : MQ9) : Prop := WP 8 0 248 135 [(0, vr 246), (1, vi l1), (2, vi l2), (5, vi l5), (7, vi l7)] [] σ Q
def R_letters_151 (l1 : Int) (l2 : Int) (l3 : Int) (l4 : Int) (l5 : Int) (σ : MS) (Q : MQ9) : Prop := WP 8 0 248 151 [(0, vr 246), (1, vi l1), (2, vi l2), (3, vi l3), (4, vi l4), (5, vi l5)] [] σ Q
def R_letters_176 (l1 : Int) (l2 : Int) (l3 : Int) (l4 : Int) (l5 : Int) (σ : MS) (Q : MQ9) : Prop := WP 8 0 248 176 [(0, vr 246), (1, vi l1), (2, vi l2), (3, vi l3), (4, vi l4), (5, vi l5)] [] σ Q
def R_letters_197 (l1 : Int) (l2 : Int) (l3 : Int) (l4 : Int) (l5 : Int) (l6 : Int) (l7 : Int) (σ : MS) (Q : MQ9) : Prop := WP 8 0 248 197 [(0, vr 246), (1, vi l1), (2, vi l2), (3, vi l3), (4, vi l4), (5, vi l5), (6, vw l6), (7, vi l7)] [] σ Q
def R_letters_214 (l1 : Int) (l2 : Int) (l3 : Int) (l4 : Int) (l5 : Int) (l6 : Int) (l7 : Int) (l8 : Int) (l9 : Int) (σ : MS) (Q : MQ9) : Prop := WP 8 0 248 214 [(0, vr 246), (1, vi l1), (2, vi l2), (3, vi l3), (4, vi l4), (5, vi l5), (6, vw l6), (7, vi l7), (8, vw l8), (9, vi l9)] [] σ Q
def R_letters_246 (l1 : Int) (l2 : Int) (l3 : Int) (l4 : Int) (l5 : Int) (l6 : Int) (l7 : Int) (l9 : Int) (σ : MS) (Q : MQ9) : Prop := WP 8 0 248 246 [(0, vr 246), (1, vi l1), (2, vi l2), (3, vi l3), (4, vi l4), (5, vi l5), (6, vw l6), (7, vi l7), (9, vi l9)] [] σ Q
def R_letters_264 (l1 : Int) (l2 : Int) (l3 : Int) (l4 : Int) (l5 : Int) (l6 : Int) (l7 : Int) (l9 : Int) (s0 : Int) (σ : MS) (Q : MQ9) : Prop := WP 8 0 248 264 [(0, vr 246), (1, vi l1), (2, vi l2), (3, vi l3), (4, vi l4), (5, vi l5), (6, vw l6), (7, vi l7), (9, vi l9)] [vw s0] σ Q
def R_letters_289 (l1 : Int) (l2 : Int) (l3 : Int) (l4 : Int) (l5 : Int) (l6 : Int) (l7 : Int) (l9 : Int) (s0 : Int) (σ : MS) (Q : MQ9) : Prop := WP 8 0 248 289 [(0, vr 246), (1, vi l1), (2, vi l2), (3, vi l3), (4, vi l4), (5, vi l5), (6, vw l6), (7, vi l7), (9, vi l9)] [vw s0] σ Q
def R_letters_297 (l1 : Int) (l2 : Int) (l3 : Int) (l4 : Int) (l5 : Int) (l6 : Int) (l7 : Int) (l8 : Int) (σ : MS) (Q : MQ9) : Prop := WP 8 0 248 297 [(0, vr 246), (1, vi l1), (2, vi l2), (3, vi l3), (4, vi l4), (5, vi l5), (6, vw l6), (7, vi l7), (8, vw l8)] [] σ Q
def R_letters_300 (l1 : Int) (l2 : Int) (l3 : Int) (l4 : Int) (l5 : Int) (l6 : Int) (l7 : Int) (l8 : Int) (l9 : Int) (σ : MS) (Q : MQ9) : Prop := WP 8 0 248 300 [(0, vr 246), (1, vi l1), (2, vi l2), (3, vi l3), (4, vi l4), (5, vi l5), (6, vw l6), (7, vi l7), (8, vw l8), (9, vi l9)] [] σ Q
def R_letters_366 (l1 : Int) (l2 : Int) (l3 : Int) (l4 : Int) (l5 : Int) (l6 : Int) (l7 : Int) (l8 : Int) (l9 : Int) (s1 : Int) (s2 : Int) (σ : MS) (Q : MQ9) : Prop := WP 8 0 248 366 [(0, vr 246), (1, vi l1), (2, vi l2), (3, vi l3), (4, vi l4), (5, vi l5), (6, vw l6), (7, vi l7), (8, vw l8), (9, vi l9)] [vw s2, vi s1, vr 348] σ Q
def R_letters_373 (l1 : Int) (l2 : Int) (l3 : Int) (l4 : Int) (l5 : Int) (l6 : Int) (l7 : Int) (σ : MS) (Q : MQ9) : Prop := WP 8 0 248 373 [(0, vr 246), (1, vi l1), (2, vi l2), (3, vi l3), (4, vi l4), (5, vi l5), (6, vw l6), (7, vi l7)] [] σ Q
def R_letters_388 (l1 : Int) (l2 : Int) (l4 : Int) (l5 : Int) (σ : MS) (Q : MQ9) : Prop := WP 8 0 248 388 [(0, vr 246), (1, vi l1), (2, vi l2), (4, vi l4), (5, vi l5)] [] σ Q
def R_letters_434 (l1 : Int) (l2 : Int) (l4 : Int) (l5 : Int) (σ : MS) (Q : MQ9) : Prop := WP 8 0 248 434 [(0, vr 246), (1, vi l1), (2, vi l2), (4, vi l4), (5, vi l5)] [] σ Q
def R_points (l1 : Int) (l2 : Int) (l3 : Int) (σ : MS) (Q : MQ9) : Prop := WP 9 0 249 0 [(0, vr 246), (1, vi l1), (2, vi l2), (3, vi l3)] [] σ Q
def R_points_3 (l1 : Int) (l2 : Int) (l3 : Int) (l4 : Int) (σ : MS) (Q : MQ9) : Prop := WP 9 0 249 3 [(0, vr 246), (1, vi l1), (2, vi l2), (3, vi l3), (4, vi l4)] [] σ Q
def R_points_26 (l2 : Int) (l3 : Int) (l4 : Int) (σ : MS) (Q : MQ9) : Prop := WP 9 0 249 26 [(0, vr 246), (2, vi l2), (3, vi l3), (4, vi l4)] [] σ Q
def R_points_53 (l2 : Int) (l3 : Int) (l4 : Int) (l5 : Int) (σ : MS) (Q : MQ9) : Prop := WP 9 0 249 53 [(0, vr 246), (2, vi l2), (3, vi l3), (4, vi l4), (5, vi l5)] [] σ Q
def R_points_76 (l2 : Int) (l3 : Int) (l4 : Int) (l5 : Int) (σ : MS) (Q : MQ9) : Prop := WP 9 0 249 76 [(0, vr 246), (2, vi l2), (3, vi l3), (4, vi l4), (5, vi l5)] [] σ Q
def R_points_82 (l2 : Int) (l3 : Int) (l4 : Int) (l5 : Int) (l6 : Int) (σ : MS) (Q : MQ9) : Prop := WP 9 0 249 82 [(0, vr 246), (2, vi l2), (3, vi l3), (4, vi l4), (5, vi l5), (6, vi l6)] [] σ Q
def R_points_112 (l2 : Int) (l3 : Int) (l4 : Int) (l5 : Int) (l6 : Int) (σ : MS) (Q : MQ9) : Prop := WP 9 0 249 112 [(0, vr 246), (2, vi l2), (3, vi l3), (4, vi l4), (5, vi l5), (6, vi l6)] [] σ Q
def R_points_122 (l2 : Int) (l3 : Int) (l5 : Int) (l6 : Int) (σ : MS) (Q : MQ9) : Prop := WP 9 0 249 122 [(0, vr 246), (2, vi l2), (3, vi l3), (5, vi l5), (6, vi l6)] [] σ Q
def R_points_137 (l2 : Int) (l3 : Int) (l5 : Int) (l6 : Int) (l7 : Int) (σ : MS) (Q : MQ9) : Prop := WP 9 0 249 137 [(0, vr 246), (2, vi l2), (3, vi l3), (5, vi l5), (6, vi l6), (7, vi l7)] [] σ Q
def R_points_162 (l2 : Int) (l3 : Int) (l5 : Int) (l6 : Int) (l7 : Int) (σ : MS) (Q : MQ9) : Prop := WP 9 0 249 162 [(0, vr 246), (2, vi l2), (3, vi l3), (5, vi l5), (6, vi l6), (7, vi l7)] [] σ Q
def R_points_192 (l2 : Int) (l3 : Int) (l5 : Int) (l7 : Int) (σ : MS) (Q : MQ9) : Prop := WP 9 0 249 192 [(0, vr 246), (2, vi l2), (3, vi l3), (5, vi l5), (7, vi l7)] [] σ Q
def R_points_201 (l2 : Int) (l3 : Int) (l5 : Int) (σ : MS) (Q : MQ9) : Prop := WP 9 0 249 201 [(0, vr 246), (2, vi l2), (3, vi l3), (5, vi l5)] [] σ Q
def R_behindBlanks (l1 : Int) (l2 : Int) (σ : MS) (Q : MQ9) : Prop := WP 7 0 250 0 [(0, vr 246), (1, vi l1), (2, vi l2)] [] σ Q
def R_behindBlanks_2 (l2 : Int) (l3 : Int) (σ : MS) (Q : MQ9) : Prop := WP 7 0 250 2 [(0, vr 246), (2, vi l2), (3, vi l3)] [] σ Q
def R_wordEnd (l1 : Int) (l2 : Int) (σ : MS) (Q : MQ9) : Prop := WP 7 0 251 0 [(0, vr 246), (1, vi l1), (2, vi l2)] [] σ Q
def R_wordEnd_2 (l2 : Int) (l3 : Int) (σ : MS) (Q : MQ9) : Prop := WP 7 0 251 2 [(0, vr 246), (2, vi l2), (3, vi l3)] [] σ Q
def R_fills (l1 : Int) (l2 : Int) (l3 : Int) (σ : MS) (Q : MQ9) : Prop := WP 8 0 252 0 [(0, vr 246), (1, vi l1), (2, vi l2), (3, vi l3)] [] σ Q
def R_fills_16 (l2 : Int) (l3 : Int) (l4 : Int) (l5 : Int) (σ : MS) (Q : MQ9) : Prop := WP 8 0 252 16 [(0, vr 246), (2, vi l2), (3, vi l3), (4, vi l4), (5, vi l5)] [] σ Q
def R_fills_41 (l2 : Int) (l3 : Int) (l4 : Int) (l5 : Int) (l6 : Int) (s0 : Int) (σ : MS) (Q : MQ9) : Prop := WP 8 0 252 41 [(0, vr 246), (2, vi l2), (3, vi l3), (4, vi l4), (5, vi l5), (6, vw l6)] [vw s0] σ Q
def R_fills_95 (l3 : Int) (l4 : Int) (l5 : Int) (l7 : Int) (l8 : Int) (σ : MS) (Q : MQ9) : Prop := WP 8 0 252 95 [(0, vr 246), (3, vi l3), (4, vi l4), (5, vi l5), (7, vw l7), (8, vi l8)] [] σ Q
def R_fills_139 (l3 : Int) (l4 : Int) (l5 : Int) (l7 : Int) (l8 : Int) (s0 : Int) (s1 : Int) (σ : MS) (Q : MQ9) : Prop := WP 8 0 252 139 [(0, vr 246), (3, vi l3), (4, vi l4), (5, vi l5), (7, vw l7), (8, vi l8)] [vw s1, vi s0] σ Q
def R_fills_144 (l3 : Int) (l4 : Int) (l5 : Int) (l7 : Int) (l8 : Int) (σ : MS) (Q : MQ9) : Prop := WP 8 0 252 144 [(0, vr 246), (3, vi l3), (4, vi l4), (5, vi l5), (7, vw l7), (8, vi l8)] [] σ Q
def R_fills_150 (l3 : Int) (l4 : Int) (l5 : Int) (l8 : Int) (σ : MS) (Q : MQ9) : Prop := WP 8 0 252 150 [(0, vr 246), (3, vi l3), (4, vi l4), (5, vi l5), (8, vi l8)] [] σ Q
def R_fills_180 (l8 : Int) (s1 : Int) (σ : MS) (Q : MQ9) : Prop := WP 8 0 252 180 [(0, vr 246), (8, vi l8)] [vw s1, vr 246] σ Q
def R_fills_212 (l4 : Int) (σ : MS) (Q : MQ9) : Prop := WP 8 0 252 212 [(0, vr 246), (4, vi l4)] [] σ Q
def R_adds (l1 : Int) (l2 : Int) (σ : MS) (Q : MQ9) : Prop := WP 6 0 253 0 [(0, vr 246), (1, vi l1), (2, vi l2)] [] σ Q
def R_blanks (l1 : Int) (σ : MS) (Q : MQ9) : Prop := WP 7 0 254 0 [(0, vr 246), (1, vi l1)] [] σ Q
def R_blanks_2 (l1 : Int) (l2 : Int) (σ : MS) (Q : MQ9) : Prop := WP 7 0 254 2 [(0, vr 246), (1, vi l1), (2, vi l2)] [] σ Q
def R_makes (l1 : Int) (l2 : Int) (l3 : Int) (σ : MS) (Q : MQ9) : Prop := WP 8 0 255 0 [(0, vr 246), (1, vi l1), (2, vi l2), (3, vi l3)] [] σ Q
def R_makes_136 (l4 : Int) (σ : MS) (Q : MQ9) : Prop := WP 8 0 255 136 [(0, vr 246), (4, vi l4)] [] σ Q
def R_taken (l1 : Int) (l2 : Int) (σ : MS) (Q : MQ9) : Prop := WP 7 0 256 0 [(0, vr 246), (1, vi l1), (2, vi l2)] [] σ Q
def R_taken_5 (l2 : Int) (l3 : Int) (l4 : Int) (σ : MS) (Q : MQ9) : Prop := WP 7 0 256 5 [(0, vr 246), (2, vi l2), (3, vi l3), (4, vi l4)] [] σ Q
def R_taken_36 (l2 : Int) (l4 : Int) (s0 : Int) (σ : MS) (Q : MQ9) : Prop := WP 7 0 256 36 [(0, vr 246), (2, vi l2), (4, vi l4)] [vi s0] σ Q
def R_taken_41 (l2 : Int) (l4 : Int) (s0 : Int) (s1 : Int) (σ : MS) (Q : MQ9) : Prop := WP 7 0 256 41 [(0, vr 246), (2, vi l2), (4, vi l4)] [vw s1, vi s0] σ Q
def R_gaps (l1 : Int) (l2 : Int) (σ : MS) (Q : MQ9) : Prop := WP 7 0 257 0 [(0, vr 246), (1, vi l1), (2, vi l2)] [] σ Q
def R_gaps_5 (l2 : Int) (l3 : Int) (l4 : Int) (σ : MS) (Q : MQ9) : Prop := WP 7 0 257 5 [(0, vr 246), (2, vi l2), (3, vi l3), (4, vi l4)] [] σ Q
def R_gaps_40 (l2 : Int) (l4 : Int) (s0 : Int) (σ : MS) (Q : MQ9) : Prop := WP 7 0 257 40 [(0, vr 246), (2, vi l2), (4, vi l4)] [vi s0] σ Q
def R_gaps_41 (l2 : Int) (l4 : Int) (s0 : Int) (s1 : Int) (σ : MS) (Q : MQ9) : Prop := WP 7 0 257 41 [(0, vr 246), (2, vi l2), (4, vi l4)] [vw s1, vi s0] σ Q
def R_content (l1 : Int) (l2 : Int) (l3 : Int) (l4 : Int) (l5 : Int) (l6 : Int) (σ : MS) (Q : MQ9) : Prop := WP 8 0 258 0 [(0, vr 246), (1, vi l1), (2, vi l2), (3, vi l3), (4, vi l4), (5, vi l5), (6, vi l6)] [] σ Q
def R_content_14 (l2 : Int) (l3 : Int) (l4 : Int) (l5 : Int) (l6 : Int) (l7 : Int) (l8 : Int) (l9 : Int) (σ : MS) (Q : MQ9) : Prop := WP 8 0 258 14 [(0, vr 246), (2, vi l2), (3, vi l3), (4, vi l4), (5, vi l5), (6, vi l6), (7, vw l7), (8, vi l8), (9, vi l9)] [] σ Q
def R_content_102 (l2 : Int) (l3 : Int) (l4 : Int) (l5 : Int) (l6 : Int) (l7 : Int) (l8 : Int) (l9 : Int) (s0 : Int) (σ : MS) (Q : MQ9) : Prop := WP 8 0 258 102 [(0, vr 246), (2, vi l2), (3, vi l3), (4, vi l4), (5, vi l5), (6, vi l6), (7, vw l7), (8, vi l8), (9, vi l9)] [vw s0] σ Q
def R_content_119 (l2 : Int) (l3 : Int) (l4 : Int) (l5 : Int) (l6 : Int) (l7 : Int) (l8 : Int) (l9 : Int) (s1 : Int) (s2 : Int) (σ : MS) (Q : MQ9) : Prop := WP 8 0 258 119 [(0, vr 246), (2, vi l2), (3, vi l3), (4, vi l4), (5, vi l5), (6, vi l6), (7, vw l7), (8, vi l8), (9, vi l9)] [vw s2, vi s1, vr 246] σ Q
def R_content_126 (l2 : Int) (l3 : Int) (l4 : Int) (l5 : Int) (l6 : Int) (l7 : Int) (l8 : Int) (l9 : Int) (σ : MS) (Q : MQ9) : Prop := WP 8 0 258 126 [(0, vr 246), (2, vi l2), (3, vi l3), (4, vi l4), (5, vi l5), (6, vi l6), (7, vw l7), (8, vi l8), (9, vi l9)] [] σ Q
def R_filled (l1 : Int) (l2 : Int) (l3 : Int) (l4 : Int) (l5 : Int) (l6 : Int) (σ : MS) (Q : MQ9) : Prop := WP 10 0 259 0 [(0, vr 246), (1, vi l1), (2, vi l2), (3, vi l3), (4, vi l4), (5, vi l5), (6, vi l6)] [] σ Q
def R_filled_11 (l3 : Int) (l4 : Int) (l5 : Int) (l6 : Int) (l7 : Int) (l8 : Int) (σ : MS) (Q : MQ9) : Prop := WP 10 0 259 11 [(0, vr 246), (3, vi l3), (4, vi l4), (5, vi l5), (6, vi l6), (7, vw l7), (8, vi l8)] [] σ Q
def R_filled_37 (l3 : Int) (l4 : Int) (l5 : Int) (l6 : Int) (l7 : Int) (l8 : Int) (σ : MS) (Q : MQ9) : Prop := WP 10 0 259 37 [(0, vr 246), (3, vi l3), (4, vi l4), (5, vi l5), (6, vi l6), (7, vw l7), (8, vi l8)] [] σ Q
def R_filled_74 (l4 : Int) (l5 : Int) (l6 : Int) (l7 : Int) (l8 : Int) (l9 : Int) (σ : MS) (Q : MQ9) : Prop := WP 10 0 259 74 [(0, vr 246), (4, vi l4), (5, vi l5), (6, vi l6), (7, vw l7), (8, vi l8), (9, vw l9)] [] σ Q
def R_filled_75 (l4 : Int) (l5 : Int) (l6 : Int) (l7 : Int) (l8 : Int) (l9 : Int) (s0 : Int) (σ : MS) (Q : MQ9) : Prop := WP 10 0 259 75 [(0, vr 246), (4, vi l4), (5, vi l5), (6, vi l6), (7, vw l7), (8, vi l8), (9, vw l9)] [vw s0] σ Q
def R_filled_84 (l4 : Int) (l5 : Int) (l6 : Int) (l8 : Int) (l9 : Int) (l10 : Int) (l11 : Int) (l12 : Int) (σ : MS) (Q : MQ9) : Prop := WP 10 0 259 84 [(0, vr 246), (4, vi l4), (5, vi l5), (6, vi l6), (8, vi l8), (9, vw l9), (10, vw l10), (11, vw l11), (12, vi l12)] [] σ Q
def R_filled_110 (l4 : Int) (l5 : Int) (l6 : Int) (l8 : Int) (l9 : Int) (l10 : Int) (l11 : Int) (l12 : Int) (s0 : Int) (σ : MS) (Q : MQ9) : Prop := WP 10 0 259 110 [(0, vr 246), (4, vi l4), (5, vi l5), (6, vi l6), (8, vi l8), (9, vw l9), (10, vw l10), (11, vw l11), (12, vi l12)] [vi s0] σ Q
def R_filled_138 (l4 : Int) (l5 : Int) (l6 : Int) (l8 : Int) (l9 : Int) (l10 : Int) (l11 : Int) (l12 : Int) (l13 : Int) (s0 : Int) (σ : MS) (Q : MQ9) : Prop := WP 10 0 259 138 [(0, vr 246), (4, vi l4), (5, vi l5), (6, vi l6), (8, vi l8), (9, vw l9), (10, vw l10), (11, vw l11), (12, vi l12), (13, vi l13)] [vi s0] σ Q
def R_filled_168 (l4 : Int) (l5 : Int) (l6 : Int) (l8 : Int) (l9 : Int) (l10 : Int) (l12 : Int) (l13 : Int) (l14 : Int) (l15 : Int) (s0 : Int) (σ : MS) (Q : MQ9) : Prop := WP 10 0 259 168 [(0, vr 246), (4, vi l4), (5, vi l5), (6, vi l6), (8, vi l8), (9, vw l9), (10, vw l10), (12, vi l12), (13, vi l13), (14, vi l14), (15, vw l15)] [vw s0] σ Q
def R_filled_210 (l4 : Int) (l5 : Int) (l6 : Int) (l8 : Int) (l9 : Int) (l10 : Int) (l12 : Int) (l13 : Int) (l14 : Int) (l15 : Int) (l16 : Int) (σ : MS) (Q : MQ9) : Prop := WP 10 0 259 210 [(0, vr 246), (4, vi l4), (5, vi l5), (6, vi l6), (8, vi l8), (9, vw l9), (10, vw l10), (12, vi l12), (13, vi l13), (14, vi l14), (15, vw l15), (16, vw l16)] [vr 246] σ Q
def R_filled_211 (l4 : Int) (l5 : Int) (l6 : Int) (l8 : Int) (l9 : Int) (l10 : Int) (l12 : Int) (l13 : Int) (l14 : Int) (l15 : Int) (l16 : Int) (s1 : Int) (σ : MS) (Q : MQ9) : Prop := WP 10 0 259 211 [(0, vr 246), (4, vi l4), (5, vi l5), (6, vi l6), (8, vi l8), (9, vw l9), (10, vw l10), (12, vi l12), (13, vi l13), (14, vi l14), (15, vw l15), (16, vw l16)] [vw s1, vr 246] σ Q
def R_filled_239 (l4 : Int) (l5 : Int) (l6 : Int) (l8 : Int) (l9 : Int) (l10 : Int) (l12 : Int) (l13 : Int) (l14 : Int) (l15 : Int) (σ : MS) (Q : MQ9) : Prop := WP 10 0 259 239 [(0, vr 246), (4, vi l4), (5, vi l5), (6, vi l6), (8, vi l8), (9, vw l9), (10, vw l10), (12, vi l12), (13, vi l13), (14, vi l14), (15, vw l15)] [] σ Q
def R_filled_270 (l4 : Int) (l5 : Int) (l6 : Int) (l8 : Int) (l9 : Int) (l10 : Int) (l12 : Int) (s1 : Int) (s2 : Int) (s3 : Int) (s4 : Int) (s5 : Int) (s6 : Int) (s7 : Int) (σ : MS) (Q : MQ9) : Prop := WP 10 0 259 270 [(0, vr 246), (4, vi l4), (5, vi l5), (6, vi l6), (8, vi l8), (9, vw l9), (10, vw l10), (12, vi l12)] [vw s7, vi s6, vi s5, vi s4, vw s3, vw s2, vw s1, vr 246] σ Q
def R_filled_287 (l9 : Int) (σ : MS) (Q : MQ9) : Prop := WP 10 0 259 287 [(0, vr 246), (9, vw l9)] [] σ Q
def R_laid (l1 : Int) (l2 : Int) (l3 : Int) (l4 : Int) (l5 : Int) (l6 : Int) (l7 : Int) (l8 : Int) (σ : MS) (Q : MQ9) : Prop := WP 9 0 260 0 [(0, vr 246), (1, vi l1), (2, vi l2), (3, vi l3), (4, vi l4), (5, vi l5), (6, vi l6), (7, vi l7), (8, vi l8)] [] σ Q
def R_laid_31 (l1 : Int) (l2 : Int) (l3 : Int) (l4 : Int) (l6 : Int) (l7 : Int) (l8 : Int) (l9 : Int) (σ : MS) (Q : MQ9) : Prop := WP 9 0 260 31 [(0, vr 246), (1, vi l1), (2, vi l2), (3, vi l3), (4, vi l4), (6, vi l6), (7, vi l7), (8, vi l8), (9, vi l9)] [] σ Q
def R_laid_61 (l1 : Int) (l2 : Int) (l3 : Int) (l4 : Int) (l5 : Int) (l6 : Int) (l7 : Int) (l8 : Int) (σ : MS) (Q : MQ9) : Prop := WP 9 0 260 61 [(0, vr 246), (1, vi l1), (2, vi l2), (3, vi l3), (4, vi l4), (5, vi l5), (6, vi l6), (7, vi l7), (8, vi l8)] [] σ Q
def R_laid_67 (l1 : Int) (l2 : Int) (l3 : Int) (l4 : Int) (l6 : Int) (l7 : Int) (l8 : Int) (σ : MS) (Q : MQ9) : Prop := WP 9 0 260 67 [(0, vr 246), (1, vi l1), (2, vi l2), (3, vi l3), (4, vi l4), (6, vi l6), (7, vi l7), (8, vi l8)] [] σ Q
def R_laid_85 (l1 : Int) (l2 : Int) (l3 : Int) (l4 : Int) (l7 : Int) (l8 : Int) (s0 : Int) (s1 : Int) (σ : MS) (Q : MQ9) : Prop := WP 9 0 260 85 [(0, vr 246), (1, vi l1), (2, vi l2), (3, vi l3), (4, vi l4), (7, vi l7), (8, vi l8)] [vw s1, vi s0] σ Q
def R_laid_108 (l1 : Int) (l2 : Int) (l3 : Int) (l4 : Int) (l7 : Int) (l8 : Int) (l9 : Int) (l10 : Int) (σ : MS) (Q : MQ9) : Prop := WP 9 0 260 108 [(0, vr 246), (1, vi l1), (2, vi l2), (3, vi l3), (4, vi l4), (7, vi l7), (8, vi l8), (9, vi l9), (10, vw l10)] [] σ Q
def R_laid_122 (l1 : Int) (l2 : Int) (l3 : Int) (l4 : Int) (l7 : Int) (l8 : Int) (l9 : Int) (l10 : Int) (σ : MS) (Q : MQ9) : Prop := WP 9 0 260 122 [(0, vr 246), (1, vi l1), (2, vi l2), (3, vi l3), (4, vi l4), (7, vi l7), (8, vi l8), (9, vi l9), (10, vw l10)] [] σ Q
def R_laid_142 (l1 : Int) (l2 : Int) (l3 : Int) (l4 : Int) (l9 : Int) (l10 : Int) (σ : MS) (Q : MQ9) : Prop := WP 9 0 260 142 [(0, vr 246), (1, vi l1), (2, vi l2), (3, vi l3), (4, vi l4), (9, vi l9), (10, vw l10)] [] σ Q
def R_laid_143 (l1 : Int) (l2 : Int) (l3 : Int) (l4 : Int) (l9 : Int) (l10 : Int) (s0 : Int) (σ : MS) (Q : MQ9) : Prop := WP 9 0 260 143 [(0, vr 246), (1, vi l1), (2, vi l2), (3, vi l3), (4, vi l4), (9, vi l9), (10, vw l10)] [vw s0] σ Q
def R_laid_163 (l1 : Int) (l2 : Int) (l3 : Int) (l4 : Int) (l9 : Int) (l10 : Int) (l11 : Int) (s1 : Int) (s2 : Int) (s3 : Int) (s4 : Int) (σ : MS) (Q : MQ9) : Prop := WP 9 0 260 163 [(0, vr 246), (1, vi l1), (2, vi l2), (3, vi l3), (4, vi l4), (9, vi l9), (10, vw l10), (11, vw l11)] [vw s4, vi s3, vi s2, vi s1, vr 246] σ Q
def R_laid_177 (l1 : Int) (l2 : Int) (l3 : Int) (l4 : Int) (s1 : Int) (s2 : Int) (s3 : Int) (s4 : Int) (s5 : Int) (σ : MS) (Q : MQ9) : Prop := WP 9 0 260 177 [(0, vr 246), (1, vi l1), (2, vi l2), (3, vi l3), (4, vi l4)] [vw s5, vw s4, vi s3, vi s2, vi s1, vr 246] σ Q
def R_laid_189 (l1 : Int) (l2 : Int) (l3 : Int) (s1 : Int) (s2 : Int) (s3 : Int) (s4 : Int) (s5 : Int) (s6 : Int) (σ : MS) (Q : MQ9) : Prop := WP 9 0 260 189 [(0, vr 246), (1, vi l1), (2, vi l2), (3, vi l3)] [vw s6, vw s5, vw s4, vi s3, vi s2, vi s1, vr 246] σ Q
def R_weighs4 (l1 : Int) (l2 : Int) (l3 : Int) (l4 : Int) (σ : MS) (Q : MQ9) : Prop := WP 9 0 261 0 [(0, vr 246), (1, vi l1), (2, vi l2), (3, vi l3), (4, vi l4)] [] σ Q
def R_weighs4_24 (l1 : Int) (l2 : Int) (l4 : Int) (s0 : Int) (σ : MS) (Q : MQ9) : Prop := WP 9 0 261 24 [(0, vr 246), (1, vi l1), (2, vi l2), (4, vi l4)] [vi s0] σ Q
def R_weighs4_52 (l1 : Int) (l2 : Int) (l5 : Int) (s0 : Int) (σ : MS) (Q : MQ9) : Prop := WP 9 0 261 52 [(0, vr 246), (1, vi l1), (2, vi l2), (5, vi l5)] [vi s0] σ Q
def R_weighs4_59 (l1 : Int) (l2 : Int) (l5 : Int) (l6 : Int) (l7 : Int) (σ : MS) (Q : MQ9) : Prop := WP 9 0 261 59 [(0, vr 246), (1, vi l1), (2, vi l2), (5, vi l5), (6, vi l6), (7, vi l7)] [] σ Q
def R_weighs4_99 (l1 : Int) (l2 : Int) (l5 : Int) (l6 : Int) (l7 : Int) (σ : MS) (Q : MQ9) : Prop := WP 9 0 261 99 [(0, vr 246), (1, vi l1), (2, vi l2), (5, vi l5), (6, vi l6), (7, vi l7)] [] σ Q
def R_weighs4_109 (l1 : Int) (l2 : Int) (l5 : Int) (l6 : Int) (l7 : Int) (σ : MS) (Q : MQ9) : Prop := WP 9 0 261 109 [(0, vr 246), (1, vi l1), (2, vi l2), (5, vi l5), (6, vi l6), (7, vi l7)] [] σ Q
def R_weighs3 (l1 : Int) (l2 : Int) (l3 : Int) (σ : MS) (Q : MQ9) : Prop := WP 8 0 262 0 [(0, vr 246), (1, vi l1), (2, vi l2), (3, vi l3)] [] σ Q
def R_weighs3_12 (l1 : Int) (l2 : Int) (l3 : Int) (l4 : Int) (l5 : Int) (l6 : Int) (l7 : Int) (σ : MS) (Q : MQ9) : Prop := WP 8 0 262 12 [(0, vr 246), (1, vi l1), (2, vi l2), (3, vi l3), (4, vi l4), (5, vi l5), (6, vi l6), (7, vi l7)] [] σ Q
def R_weighs3_28 (l1 : Int) (l2 : Int) (l3 : Int) (l4 : Int) (l5 : Int) (l6 : Int) (l7 : Int) (s0 : Int) (σ : MS) (Q : MQ9) : Prop := WP 8 0 262 28 [(0, vr 246), (1, vi l1), (2, vi l2), (3, vi l3), (4, vi l4), (5, vi l5), (6, vi l6), (7, vi l7)] [vw s0] σ Q
def R_weighs3_45 (l1 : Int) (l2 : Int) (l3 : Int) (l4 : Int) (l5 : Int) (l6 : Int) (l7 : Int) (l8 : Int) (l9 : Int) (l10 : Int) (σ : MS) (Q : MQ9) : Prop := WP 8 0 262 45 [(0, vr 246), (1, vi l1), (2, vi l2), (3, vi l3), (4, vi l4), (5, vi l5), (6, vi l6), (7, vi l7), (8, vw l8), (9, vw l9), (10, vi l10)] [] σ Q
def R_weighs3_107 (l1 : Int) (l2 : Int) (l3 : Int) (l4 : Int) (l5 : Int) (l6 : Int) (l7 : Int) (l8 : Int) (l9 : Int) (l10 : Int) (s0 : Int) (s1 : Int) (σ : MS) (Q : MQ9) : Prop := WP 8 0 262 107 [(0, vr 246), (1, vi l1), (2, vi l2), (3, vi l3), (4, vi l4), (5, vi l5), (6, vi l6), (7, vi l7), (8, vw l8), (9, vw l9), (10, vi l10)] [vw s1, vi s0] σ Q
def R_weighs3_155 (l1 : Int) (l2 : Int) (l3 : Int) (l4 : Int) (l5 : Int) (l6 : Int) (l7 : Int) (l8 : Int) (l9 : Int) (l10 : Int) (s0 : Int) (s1 : Int) (σ : MS) (Q : MQ9) : Prop := WP 8 0 262 155 [(0, vr 246), (1, vi l1), (2, vi l2), (3, vi l3), (4, vi l4), (5, vi l5), (6, vi l6), (7, vi l7), (8, vw l8), (9, vw l9), (10, vi l10)] [vw s1, vi s0] σ Q
def R_weighs3_181 (l1 : Int) (l2 : Int) (l3 : Int) (l6 : Int) (l7 : Int) (l8 : Int) (l9 : Int) (l10 : Int) (l12 : Int) (σ : MS) (Q : MQ9) : Prop := WP 8 0 262 181 [(0, vr 246), (1, vi l1), (2, vi l2), (3, vi l3), (6, vi l6), (7, vi l7), (8, vw l8), (9, vw l9), (10, vi l10), (12, vi l12)] [] σ Q
def R_weighs3_189 (l1 : Int) (l2 : Int) (l3 : Int) (l4 : Int) (l5 : Int) (l6 : Int) (l7 : Int) (l8 : Int) (l9 : Int) (l10 : Int) (σ : MS) (Q : MQ9) : Prop := WP 8 0 262 189 [(0, vr 246), (1, vi l1), (2, vi l2), (3, vi l3), (4, vi l4), (5, vi l5), (6, vi l6), (7, vi l7), (8, vw l8), (9, vw l9), (10, vi l10)] [] σ Q
def R_weighs3_195 (l1 : Int) (l2 : Int) (l3 : Int) (l4 : Int) (l5 : Int) (l6 : Int) (l7 : Int) (l8 : Int) (l9 : Int) (σ : MS) (Q : MQ9) : Prop := WP 8 0 262 195 [(0, vr 246), (1, vi l1), (2, vi l2), (3, vi l3), (4, vi l4), (5, vi l5), (6, vi l6), (7, vi l7), (8, vw l8), (9, vw l9)] [] σ Q
def R_weighs3_289 (l1 : Int) (l2 : Int) (l3 : Int) (l6 : Int) (l7 : Int) (l9 : Int) (l10 : Int) (σ : MS) (Q : MQ9) : Prop := WP 8 0 262 289 [(0, vr 246), (1, vi l1), (2, vi l2), (3, vi l3), (6, vi l6), (7, vw l7), (9, vw l9), (10, vi l10)] [] σ Q
def R_weighs3_300 (l1 : Int) (l4 : Int) (l5 : Int) (σ : MS) (Q : MQ9) : Prop := WP 8 0 262 300 [(0, vr 246), (1, vi l1), (4, vi l4), (5, vi l5)] [] σ Q
def R_lies (l1 : Int) (l2 : Int) (l3 : Int) (σ : MS) (Q : MQ9) : Prop := WP 6 0 263 0 [(0, vr 246), (1, vi l1), (2, vi l2), (3, vi l3)] [] σ Q
def R_lies_20 (l1 : Int) (σ : MS) (Q : MQ9) : Prop := WP 6 0 263 20 [(0, vr 246), (1, vi l1)] [] σ Q
def R_lies_46 (l1 : Int) (s0 : Int) (σ : MS) (Q : MQ9) : Prop := WP 6 0 263 46 [(0, vr 246), (1, vi l1)] [vi s0] σ Q
def R_lies_51 (l1 : Int) (l4 : Int) (l5 : Int) (σ : MS) (Q : MQ9) : Prop := WP 6 0 263 51 [(0, vr 246), (1, vi l1), (4, vi l4), (5, vi l5)] [] σ Q
def R_lies_92 (l5 : Int) (σ : MS) (Q : MQ9) : Prop := WP 6 0 263 92 [(0, vr 246), (5, vi l5)] [] σ Q
def R_carries (l1 : Int) (l2 : Int) (l3 : Int) (σ : MS) (Q : MQ9) : Prop := WP 7 0 264 0 [(0, vr 246), (1, vi l1), (2, vi l2), (3, vi l3)] [] σ Q
def R_carries_3 (l1 : Int) (l2 : Int) (l3 : Int) (l4 : Int) (σ : MS) (Q : MQ9) : Prop := WP 7 0 264 3 [(0, vr 246), (1, vi l1), (2, vi l2), (3, vi l3), (4, vi l4)] [] σ Q
def R_carries_29 (l1 : Int) (l2 : Int) (l4 : Int) (σ : MS) (Q : MQ9) : Prop := WP 7 0 264 29 [(0, vr 246), (1, vi l1), (2, vi l2), (4, vi l4)] [] σ Q
def R_carries_32 (l1 : Int) (l2 : Int) (l4 : Int) (l5 : Int) (σ : MS) (Q : MQ9) : Prop := WP 7 0 264 32 [(0, vr 246), (1, vi l1), (2, vi l2), (4, vi l4), (5, vi l5)] [] σ Q
def R_carries_64 (l1 : Int) (l2 : Int) (l4 : Int) (l5 : Int) (s0 : Int) (σ : MS) (Q : MQ9) : Prop := WP 7 0 264 64 [(0, vr 246), (1, vi l1), (2, vi l2), (4, vi l4), (5, vi l5)] [vi s0] σ Q
def R_carries_69 (l1 : Int) (l2 : Int) (l4 : Int) (l5 : Int) (l6 : Int) (l7 : Int) (σ : MS) (Q : MQ9) : Prop := WP 7 0 264 69 [(0, vr 246), (1, vi l1), (2, vi l2), (4, vi l4), (5, vi l5), (6, vi l6), (7, vi l7)] [] σ Q
def R_carries_98 (l1 : Int) (l2 : Int) (l4 : Int) (l5 : Int) (l7 : Int) (σ : MS) (Q : MQ9) : Prop := WP 7 0 264 98 [(0, vr 246), (1, vi l1), (2, vi l2), (4, vi l4), (5, vi l5), (7, vi l7)] [] σ Q
def R_carries_132 (l1 : Int) (l2 : Int) (l4 : Int) (l5 : Int) (l7 : Int) (σ : MS) (Q : MQ9) : Prop := WP 7 0 264 132 [(0, vr 246), (1, vi l1), (2, vi l2), (4, vi l4), (5, vi l5), (7, vi l7)] [] σ Q
def R_carries_193 (l1 : Int) (l2 : Int) (l4 : Int) (l5 : Int) (σ : MS) (Q : MQ9) : Prop := WP 7 0 264 193 [(0, vr 246), (1, vi l1), (2, vi l2), (4, vi l4), (5, vi l5)] [] σ Q
def R_notesLines (l1 : Int) (σ : MS) (Q : MQ9) : Prop := WP 11 0 265 0 [(0, vr 246), (1, vi l1)] [] σ Q
def R_notesLines_2 (l2 : Int) (σ : MS) (Q : MQ9) : Prop := WP 11 0 265 2 [(0, vr 246), (2, vi l2)] [] σ Q
def R_notesLines_61 (l2 : Int) (l3 : Int) (s1 : Int) (s2 : Int) (s3 : Int) (σ : MS) (Q : MQ9) : Prop := WP 11 0 265 61 [(0, vr 246), (2, vi l2), (3, vi l3)] [vw s3, vw s2, vw s1, vr 246] σ Q
def R_notesLines_67 (l2 : Int) (l3 : Int) (l4 : Int) (σ : MS) (Q : MQ9) : Prop := WP 11 0 265 67 [(0, vr 246), (2, vi l2), (3, vi l3), (4, vi l4)] [] σ Q
def R_notesLines_177 (l2 : Int) (l3 : Int) (l5 : Int) (σ : MS) (Q : MQ9) : Prop := WP 11 0 265 177 [(0, vr 246), (2, vi l2), (3, vi l3), (5, vi l5)] [] σ Q
def R_notesLines_212 (l2 : Int) (σ : MS) (Q : MQ9) : Prop := WP 11 0 265 212 [(0, vr 246), (2, vi l2)] [] σ Q
def R_begins (l1 : Int) (σ : MS) (Q : MQ9) : Prop := WP 6 0 266 0 [(0, vr 246), (1, vi l1)] [] σ Q
def R_heading (l1 : Int) (l2 : Int) (l3 : Int) (σ : MS) (Q : MQ9) : Prop := WP 301 0 267 0 [(0, vr 246), (1, vi l1), (2, vi l2), (3, vi l3)] [] σ Q
def R_heading_41 (l1 : Int) (l2 : Int) (l3 : Int) (l4 : Int) (σ : MS) (Q : MQ9) : Prop := WP 301 0 267 41 [(0, vr 246), (1, vi l1), (2, vi l2), (3, vi l3), (4, vi l4)] [] σ Q
def R_heading_69 (l1 : Int) (l2 : Int) (l3 : Int) (l4 : Int) (σ : MS) (Q : MQ9) : Prop := WP 301 0 267 69 [(0, vr 246), (1, vi l1), (2, vi l2), (3, vi l3), (4, vi l4)] [] σ Q
def R_heading_112 (l1 : Int) (l2 : Int) (l3 : Int) (l4 : Int) (σ : MS) (Q : MQ9) : Prop := WP 301 0 267 112 [(0, vr 246), (1, vi l1), (2, vi l2), (3, vi l3), (4, vi l4)] [] σ Q
def R_heading_115 (l1 : Int) (l2 : Int) (l3 : Int) (l4 : Int) (l5 : Int) (σ : MS) (Q : MQ9) : Prop := WP 301 0 267 115 [(0, vr 246), (1, vi l1), (2, vi l2), (3, vi l3), (4, vi l4), (5, vi l5)] [] σ Q
def R_heading_162 (l1 : Int) (l2 : Int) (l3 : Int) (l4 : Int) (σ : MS) (Q : MQ9) : Prop := WP 301 0 267 162 [(0, vr 246), (1, vi l1), (2, vi l2), (3, vi l3), (4, vi l4)] [] σ Q
def R_heading_316 (l4 : Int) (l5 : Int) (l6 : Int) (σ : MS) (Q : MQ9) : Prop := WP 301 0 267 316 [(0, vr 246), (4, vi l4), (5, vw l5), (6, vi l6)] [] σ Q
def R_heading_382 (l4 : Int) (l6 : Int) (σ : MS) (Q : MQ9) : Prop := WP 301 0 267 382 [(0, vr 246), (4, vi l4), (6, vi l6)] [] σ Q
def R_heading_411 (l4 : Int) (l5 : Int) (l6 : Int) (σ : MS) (Q : MQ9) : Prop := WP 301 0 267 411 [(0, vr 246), (4, vi l4), (5, vw l5), (6, vi l6)] [] σ Q
def R_heading_501 (l6 : Int) (l8 : Int) (σ : MS) (Q : MQ9) : Prop := WP 301 0 267 501 [(0, vr 246), (6, vw l6), (8, vi l8)] [] σ Q
def R_text (l1 : Int) (l2 : Int) (l3 : Int) (l4 : Int) (l5 : Int) (σ : MS) (Q : MQ9) : Prop := WP 301 0 268 0 [(0, vr 246), (1, vi l1), (2, vi l2), (3, vi l3), (4, vi l4), (5, vi l5)] [] σ Q
def R_text_40 (l3 : Int) (l4 : Int) (l5 : Int) (l6 : Int) (σ : MS) (Q : MQ9) : Prop := WP 301 0 268 40 [(0, vr 246), (3, vi l3), (4, vi l4), (5, vi l5), (6, vw l6)] [] σ Q
def R_text_69 (l3 : Int) (l4 : Int) (l5 : Int) (l6 : Int) (s1 : Int) (s2 : Int) (s3 : Int) (σ : MS) (Q : MQ9) : Prop := WP 301 0 268 69 [(0, vr 246), (3, vi l3), (4, vi l4), (5, vi l5), (6, vw l6)] [vw s3, vw s2, vw s1, vr 246] σ Q
def R_text_142 (l5 : Int) (l6 : Int) (l7 : Int) (l9 : Int) (σ : MS) (Q : MQ9) : Prop := WP 301 0 268 142 [(0, vr 246), (5, vi l5), (6, vw l6), (7, vw l7), (9, vi l9)] [] σ Q
def R_text_180 (l5 : Int) (l6 : Int) (l7 : Int) (σ : MS) (Q : MQ9) : Prop := WP 301 0 268 180 [(0, vr 246), (5, vi l5), (6, vw l6), (7, vw l7)] [] σ Q
def R_text_201 (l5 : Int) (l6 : Int) (l7 : Int) (l10 : Int) (σ : MS) (Q : MQ9) : Prop := WP 301 0 268 201 [(0, vr 246), (5, vi l5), (6, vw l6), (7, vw l7), (10, vi l10)] [] σ Q
def R_text_258 (l5 : Int) (l6 : Int) (l7 : Int) (l10 : Int) (s1 : Int) (σ : MS) (Q : MQ9) : Prop := WP 301 0 268 258 [(0, vr 246), (5, vi l5), (6, vw l6), (7, vw l7), (10, vi l10)] [vi s1, vr 314] σ Q
def R_text_259 (l5 : Int) (l6 : Int) (l7 : Int) (l10 : Int) (s1 : Int) (s2 : Int) (σ : MS) (Q : MQ9) : Prop := WP 301 0 268 259 [(0, vr 246), (5, vi l5), (6, vw l6), (7, vw l7), (10, vi l10)] [vw s2, vi s1, vr 314] σ Q
def R_paragraph (l1 : Int) (l2 : Int) (σ : MS) (Q : MQ9) : Prop := WP 302 0 269 0 [(0, vr 246), (1, vi l1), (2, vi l2)] [] σ Q
def R_item (l1 : Int) (l2 : Int) (l3 : Int) (l4 : Int) (l5 : Int) (σ : MS) (Q : MQ9) : Prop := WP 302 0 270 0 [(0, vr 246), (1, vi l1), (2, vi l2), (3, vi l3), (4, vi l4), (5, vi l5)] [] σ Q
def R_item_18 (l1 : Int) (l2 : Int) (l3 : Int) (l4 : Int) (l5 : Int) (l6 : Int) (l7 : Int) (σ : MS) (Q : MQ9) : Prop := WP 302 0 270 18 [(0, vr 246), (1, vi l1), (2, vi l2), (3, vi l3), (4, vi l4), (5, vi l5), (6, vw l6), (7, vi l7)] [] σ Q
def R_item_38 (l1 : Int) (l2 : Int) (l3 : Int) (l4 : Int) (l5 : Int) (l6 : Int) (σ : MS) (Q : MQ9) : Prop := WP 302 0 270 38 [(0, vr 246), (1, vi l1), (2, vi l2), (3, vi l3), (4, vi l4), (5, vi l5), (6, vw l6)] [] σ Q
def R_item_44 (l1 : Int) (l2 : Int) (l3 : Int) (l4 : Int) (l5 : Int) (l6 : Int) (l7 : Int) (σ : MS) (Q : MQ9) : Prop := WP 302 0 270 44 [(0, vr 246), (1, vi l1), (2, vi l2), (3, vi l3), (4, vi l4), (5, vi l5), (6, vw l6), (7, vi l7)] [] σ Q
def R_item_108 (l1 : Int) (l3 : Int) (l4 : Int) (l5 : Int) (l6 : Int) (s1 : Int) (s2 : Int) (σ : MS) (Q : MQ9) : Prop := WP 302 0 270 108 [(0, vr 246), (1, vi l1), (3, vi l3), (4, vi l4), (5, vi l5), (6, vw l6)] [vw s2, vl s1, vr 246] σ Q
def R_item_114 (l1 : Int) (l3 : Int) (l4 : Int) (l5 : Int) (l6 : Int) (l7 : Int) (σ : MS) (Q : MQ9) : Prop := WP 302 0 270 114 [(0, vr 246), (1, vi l1), (3, vi l3), (4, vi l4), (5, vi l5), (6, vw l6), (7, vi l7)] [] σ Q
def R_item_186 (l1 : Int) (l3 : Int) (l4 : Int) (l5 : Int) (s1 : Int) (s2 : Int) (σ : MS) (Q : MQ9) : Prop := WP 302 0 270 186 [(0, vr 246), (1, vi l1), (3, vi l3), (4, vi l4), (5, vi l5)] [vw s2, vw s1, vr 350] σ Q
def R_item_229 (l1 : Int) (l3 : Int) (l4 : Int) (l5 : Int) (s1 : Int) (s2 : Int) (σ : MS) (Q : MQ9) : Prop := WP 302 0 270 229 [(0, vr 246), (1, vi l1), (3, vi l3), (4, vi l4), (5, vi l5)] [vw s2, vw s1, vr 350] σ Q
def R_item_236 (l1 : Int) (l3 : Int) (l4 : Int) (l5 : Int) (σ : MS) (Q : MQ9) : Prop := WP 302 0 270 236 [(0, vr 246), (1, vi l1), (3, vi l3), (4, vi l4), (5, vi l5)] [] σ Q
def R_raws (l1 : Int) (l2 : Int) (σ : MS) (Q : MQ9) : Prop := WP 9 0 271 0 [(0, vr 246), (1, vi l1), (2, vi l2)] [] σ Q
def R_raws_8 (l1 : Int) (l2 : Int) (l3 : Int) (l4 : Int) (σ : MS) (Q : MQ9) : Prop := WP 9 0 271 8 [(0, vr 246), (1, vi l1), (2, vi l2), (3, vw l3), (4, vi l4)] [] σ Q
def R_raws_51 (l1 : Int) (l2 : Int) (l3 : Int) (l4 : Int) (l5 : Int) (l6 : Int) (l7 : Int) (σ : MS) (Q : MQ9) : Prop := WP 9 0 271 51 [(0, vr 246), (1, vi l1), (2, vi l2), (3, vw l3), (4, vi l4), (5, vi l5), (6, vw l6), (7, vi l7)] [] σ Q
def R_raws_90 (l1 : Int) (l2 : Int) (l3 : Int) (l4 : Int) (σ : MS) (Q : MQ9) : Prop := WP 9 0 271 90 [(0, vr 246), (1, vi l1), (2, vi l2), (3, vw l3), (4, vi l4)] [] σ Q
def R_raws_105 (l3 : Int) (σ : MS) (Q : MQ9) : Prop := WP 9 0 271 105 [(0, vr 246), (3, vw l3)] [] σ Q
def R_isBlank (l1 : Int) (l2 : Int) (σ : MS) (Q : MQ9) : Prop := WP 6 0 272 0 [(0, vr 246), (1, vi l1), (2, vi l2)] [] σ Q
def R_isBlank_5 (l2 : Int) (l3 : Int) (l4 : Int) (σ : MS) (Q : MQ9) : Prop := WP 6 0 272 5 [(0, vr 246), (2, vi l2), (3, vw l3), (4, vi l4)] [] σ Q
def R_isBlank_32 (l2 : Int) (l4 : Int) (s0 : Int) (σ : MS) (Q : MQ9) : Prop := WP 6 0 272 32 [(0, vr 246), (2, vi l2), (4, vi l4)] [vw s0] σ Q
def R_parts (l1 : Int) (l2 : Int) (σ : MS) (Q : MQ9) : Prop := WP 8 0 273 0 [(0, vr 246), (1, vi l1), (2, vi l2)] [] σ Q
def R_parts_26 (l2 : Int) (l3 : Int) (l4 : Int) (l5 : Int) (l6 : Int) (l7 : Int) (σ : MS) (Q : MQ9) : Prop := WP 8 0 273 26 [(0, vr 246), (2, vi l2), (3, vw l3), (4, vi l4), (5, vi l5), (6, vw l6), (7, vi l7)] [] σ Q
def R_parts_58 (l2 : Int) (l3 : Int) (l4 : Int) (l5 : Int) (l6 : Int) (l7 : Int) (l8 : Int) (σ : MS) (Q : MQ9) : Prop := WP 8 0 273 58 [(0, vr 246), (2, vi l2), (3, vw l3), (4, vi l4), (5, vi l5), (6, vw l6), (7, vi l7), (8, vw l8)] [] σ Q
def R_parts_73 (l2 : Int) (l3 : Int) (l4 : Int) (l5 : Int) (l6 : Int) (l7 : Int) (l8 : Int) (σ : MS) (Q : MQ9) : Prop := WP 8 0 273 73 [(0, vr 246), (2, vi l2), (3, vw l3), (4, vi l4), (5, vi l5), (6, vw l6), (7, vi l7), (8, vw l8)] [] σ Q
def R_parts_104 (l2 : Int) (l3 : Int) (l4 : Int) (l5 : Int) (l6 : Int) (l7 : Int) (l8 : Int) (σ : MS) (Q : MQ9) : Prop := WP 8 0 273 104 [(0, vr 246), (2, vi l2), (3, vw l3), (4, vi l4), (5, vi l5), (6, vw l6), (7, vi l7), (8, vw l8)] [] σ Q
def R_parts_118 (l2 : Int) (l3 : Int) (l4 : Int) (l6 : Int) (l7 : Int) (s0 : Int) (s1 : Int) (σ : MS) (Q : MQ9) : Prop := WP 8 0 273 118 [(0, vr 246), (2, vi l2), (3, vw l3), (4, vi l4), (6, vw l6), (7, vi l7)] [vw s1, vi s0] σ Q
def R_parts_124 (l2 : Int) (l3 : Int) (l4 : Int) (l6 : Int) (σ : MS) (Q : MQ9) : Prop := WP 8 0 273 124 [(0, vr 246), (2, vi l2), (3, vw l3), (4, vi l4), (6, vw l6)] [] σ Q
def R_parted (l1 : Int) (l2 : Int) (l3 : Int) (l4 : Int) (σ : MS) (Q : MQ9) : Prop := WP 7 0 274 0 [(0, vr 246), (1, vi l1), (2, vi l2), (3, vi l3), (4, vi l4)] [] σ Q
def R_aligns (l1 : Int) (l2 : Int) (σ : MS) (Q : MQ9) : Prop := WP 6 0 275 0 [(0, vr 246), (1, vi l1), (2, vi l2)] [] σ Q
def R_aligns_9 (l1 : Int) (l2 : Int) (s0 : Int) (σ : MS) (Q : MQ9) : Prop := WP 6 0 275 9 [(0, vr 246), (1, vi l1), (2, vi l2)] [vw s0] σ Q
def R_aligns_13 (l1 : Int) (l2 : Int) (l3 : Int) (l4 : Int) (σ : MS) (Q : MQ9) : Prop := WP 6 0 275 13 [(0, vr 246), (1, vi l1), (2, vi l2), (3, vw l3), (4, vi l4)] [] σ Q
def R_aligns_45 (l1 : Int) (l2 : Int) (l4 : Int) (l5 : Int) (l6 : Int) (σ : MS) (Q : MQ9) : Prop := WP 6 0 275 45 [(0, vr 246), (1, vi l1), (2, vi l2), (4, vi l4), (5, vi l5), (6, vw l6)] [] σ Q
def R_aligns_70 (l1 : Int) (l2 : Int) (l4 : Int) (l5 : Int) (l6 : Int) (σ : MS) (Q : MQ9) : Prop := WP 6 0 275 70 [(0, vr 246), (1, vi l1), (2, vi l2), (4, vi l4), (5, vi l5), (6, vi l6)] [] σ Q
def R_aligns_97 (l1 : Int) (l2 : Int) (l4 : Int) (l5 : Int) (l6 : Int) (σ : MS) (Q : MQ9) : Prop := WP 6 0 275 97 [(0, vr 246), (1, vi l1), (2, vi l2), (4, vi l4), (5, vi l5), (6, vi l6)] [] σ Q
def R_aligns_142 (l1 : Int) (l2 : Int) (l4 : Int) (l5 : Int) (σ : MS) (Q : MQ9) : Prop := WP 6 0 275 142 [(0, vr 246), (1, vi l1), (2, vi l2), (4, vi l4), (5, vi l5)] [] σ Q
def R_aligns_146 (l1 : Int) (l2 : Int) (l4 : Int) (l5 : Int) (σ : MS) (Q : MQ9) : Prop := WP 6 0 275 146 [(0, vr 246), (1, vi l1), (2, vi l2), (4, vi l4), (5, vi l5)] [] σ Q
def R_aligns_147 (l1 : Int) (l2 : Int) (l4 : Int) (l5 : Int) (s0 : Int) (σ : MS) (Q : MQ9) : Prop := WP 6 0 275 147 [(0, vr 246), (1, vi l1), (2, vi l2), (4, vi l4), (5, vi l5)] [vw s0] σ Q
def R_aligns_170 (l1 : Int) (l2 : Int) (l3 : Int) (l4 : Int) (s1 : Int) (σ : MS) (Q : MQ9) : Prop := WP 6 0 275 170 [(0, vr 246), (1, vi l1), (2, vi l2), (3, vw l3), (4, vi l4)] [vi s1, vr 345] σ Q
def R_aligns_191 (l1 : Int) (l2 : Int) (l3 : Int) (l4 : Int) (s1 : Int) (s2 : Int) (σ : MS) (Q : MQ9) : Prop := WP 6 0 275 191 [(0, vr 246), (1, vi l1), (2, vi l2), (3, vw l3), (4, vi l4)] [vw s2, vi s1, vr 345] σ Q
def R_aligns_198 (l3 : Int) (σ : MS) (Q : MQ9) : Prop := WP 6 0 275 198 [(0, vr 246), (3, vw l3)] [] σ Q
def R_aligns_205 (l3 : Int) (l4 : Int) (σ : MS) (Q : MQ9) : Prop := WP 6 0 275 205 [(0, vr 246), (3, vw l3), (4, vi l4)] [] σ Q
def R_table (l1 : Int) (l2 : Int) (σ : MS) (Q : MQ9) : Prop := WP 301 0 276 0 [(0, vr 246), (1, vi l1), (2, vi l2)] [] σ Q
def R_table_7 (l1 : Int) (l2 : Int) (l3 : Int) (σ : MS) (Q : MQ9) : Prop := WP 301 0 276 7 [(0, vr 246), (1, vi l1), (2, vi l2), (3, vi l3)] [] σ Q
def R_table_44 (l1 : Int) (l2 : Int) (l3 : Int) (l4 : Int) (l5 : Int) (l6 : Int) (σ : MS) (Q : MQ9) : Prop := WP 301 0 276 44 [(0, vr 246), (1, vi l1), (2, vi l2), (3, vi l3), (4, vi l4), (5, vw l5), (6, vi l6)] [] σ Q
def R_table_95 (l1 : Int) (l2 : Int) (l3 : Int) (l4 : Int) (l5 : Int) (l6 : Int) (l7 : Int) (σ : MS) (Q : MQ9) : Prop := WP 301 0 276 95 [(0, vr 246), (1, vi l1), (2, vi l2), (3, vi l3), (4, vi l4), (5, vw l5), (6, vi l6), (7, vw l7)] [] σ Q
def R_table_106 (l1 : Int) (l2 : Int) (l3 : Int) (l4 : Int) (l5 : Int) (l6 : Int) (l7 : Int) (l8 : Int) (σ : MS) (Q : MQ9) : Prop := WP 301 0 276 106 [(0, vr 246), (1, vi l1), (2, vi l2), (3, vi l3), (4, vi l4), (5, vw l5), (6, vi l6), (7, vw l7), (8, vi l8)] [] σ Q
def R_table_244 (l1 : Int) (l2 : Int) (l3 : Int) (l4 : Int) (l5 : Int) (l6 : Int) (l7 : Int) (l8 : Int) (s1 : Int) (s2 : Int) (σ : MS) (Q : MQ9) : Prop := WP 301 0 276 244 [(0, vr 246), (1, vi l1), (2, vi l2), (3, vi l3), (4, vi l4), (5, vw l5), (6, vi l6), (7, vw l7), (8, vi l8)] [vw s2, vi s1, vr 346] σ Q
def R_table_251 (l1 : Int) (l2 : Int) (l3 : Int) (l4 : Int) (l5 : Int) (l6 : Int) (l7 : Int) (σ : MS) (Q : MQ9) : Prop := WP 301 0 276 251 [(0, vr 246), (1, vi l1), (2, vi l2), (3, vi l3), (4, vi l4), (5, vw l5), (6, vi l6), (7, vw l7)] [] σ Q
def R_table_265 (l1 : Int) (l2 : Int) (l3 : Int) (l4 : Int) (l6 : Int) (l7 : Int) (s0 : Int) (σ : MS) (Q : MQ9) : Prop := WP 301 0 276 265 [(0, vr 246), (1, vi l1), (2, vi l2), (3, vi l3), (4, vi l4), (6, vi l6), (7, vw l7)] [vw s0] σ Q
def R_table_275 (l1 : Int) (l2 : Int) (l3 : Int) (l4 : Int) (l5 : Int) (l6 : Int) (σ : MS) (Q : MQ9) : Prop := WP 301 0 276 275 [(0, vr 246), (1, vi l1), (2, vi l2), (3, vi l3), (4, vi l4), (5, vw l5), (6, vi l6)] [] σ Q
def R_table_281 (l3 : Int) (l4 : Int) (l5 : Int) (σ : MS) (Q : MQ9) : Prop := WP 301 0 276 281 [(0, vr 246), (3, vi l3), (4, vi l4), (5, vw l5)] [] σ Q
def R_table_311 (l3 : Int) (l4 : Int) (l5 : Int) (l6 : Int) (σ : MS) (Q : MQ9) : Prop := WP 301 0 276 311 [(0, vr 246), (3, vi l3), (4, vi l4), (5, vw l5), (6, vi l6)] [] σ Q
def R_table_351 (l4 : Int) (l5 : Int) (l6 : Int) (l7 : Int) (σ : MS) (Q : MQ9) : Prop := WP 301 0 276 351 [(0, vr 246), (4, vi l4), (5, vw l5), (6, vw l6), (7, vi l7)] [] σ Q
def R_table_391 (l4 : Int) (l5 : Int) (l6 : Int) (l7 : Int) (σ : MS) (Q : MQ9) : Prop := WP 301 0 276 391 [(0, vr 246), (4, vi l4), (5, vw l5), (6, vw l6), (7, vi l7)] [] σ Q
def R_table_397 (l6 : Int) (σ : MS) (Q : MQ9) : Prop := WP 301 0 276 397 [(0, vr 246), (6, vw l6)] [] σ Q
def R_trims (l1 : Int) (l2 : Int) (σ : MS) (Q : MQ9) : Prop := WP 8 0 277 0 [(0, vr 246), (1, vi l1), (2, vi l2)] [] σ Q
def R_trims_16 (l2 : Int) (l3 : Int) (l4 : Int) (σ : MS) (Q : MQ9) : Prop := WP 8 0 277 16 [(0, vr 246), (2, vi l2), (3, vw l3), (4, vi l4)] [] σ Q
def R_trims_41 (l2 : Int) (l3 : Int) (l4 : Int) (σ : MS) (Q : MQ9) : Prop := WP 8 0 277 41 [(0, vr 246), (2, vi l2), (3, vw l3), (4, vi l4)] [] σ Q
def R_narrows (l1 : Int) (σ : MS) (Q : MQ9) : Prop := WP 6 0 278 0 [(0, vr 246), (1, vi l1)] [] σ Q
def R_narrows_8 (l1 : Int) (l2 : Int) (l3 : Int) (σ : MS) (Q : MQ9) : Prop := WP 6 0 278 8 [(0, vr 246), (1, vi l1), (2, vi l2), (3, vi l3)] [] σ Q
def R_narrows_28 (l1 : Int) (l2 : Int) (σ : MS) (Q : MQ9) : Prop := WP 6 0 278 28 [(0, vr 246), (1, vi l1), (2, vi l2)] [] σ Q
def R_narrows_43 (l1 : Int) (l2 : Int) (l3 : Int) (l4 : Int) (σ : MS) (Q : MQ9) : Prop := WP 6 0 278 43 [(0, vr 246), (1, vi l1), (2, vi l2), (3, vi l3), (4, vi l4)] [] σ Q
def R_narrows_68 (l1 : Int) (l2 : Int) (l3 : Int) (l4 : Int) (σ : MS) (Q : MQ9) : Prop := WP 6 0 278 68 [(0, vr 246), (1, vi l1), (2, vi l2), (3, vi l3), (4, vi l4)] [] σ Q
def R_row (l1 : Int) (l2 : Int) (σ : MS) (Q : MQ9) : Prop := WP 9 0 279 0 [(0, vr 246), (1, vi l1), (2, vi l2)] [] σ Q
def R_row_25 (l1 : Int) (l2 : Int) (l3 : Int) (l5 : Int) (σ : MS) (Q : MQ9) : Prop := WP 9 0 279 25 [(0, vr 246), (1, vi l1), (2, vi l2), (3, vi l3), (5, vi l5)] [] σ Q
def R_row_61 (l1 : Int) (l2 : Int) (l3 : Int) (l5 : Int) (σ : MS) (Q : MQ9) : Prop := WP 9 0 279 61 [(0, vr 246), (1, vi l1), (2, vi l2), (3, vi l3), (5, vw l5)] [] σ Q
def R_row_84 (l1 : Int) (l2 : Int) (l3 : Int) (l5 : Int) (l6 : Int) (σ : MS) (Q : MQ9) : Prop := WP 9 0 279 84 [(0, vr 246), (1, vi l1), (2, vi l2), (3, vi l3), (5, vw l5), (6, vi l6)] [] σ Q
def R_row_116 (l1 : Int) (l2 : Int) (l3 : Int) (l5 : Int) (l6 : Int) (σ : MS) (Q : MQ9) : Prop := WP 9 0 279 116 [(0, vr 246), (1, vi l1), (2, vi l2), (3, vi l3), (5, vw l5), (6, vi l6)] [] σ Q
def R_row_140 (l1 : Int) (l2 : Int) (l3 : Int) (l5 : Int) (l6 : Int) (s0 : Int) (σ : MS) (Q : MQ9) : Prop := WP 9 0 279 140 [(0, vr 246), (1, vi l1), (2, vi l2), (3, vi l3), (5, vw l5), (6, vi l6)] [vw s0] σ Q
def R_row_160 (l1 : Int) (l2 : Int) (l3 : Int) (l5 : Int) (l6 : Int) (σ : MS) (Q : MQ9) : Prop := WP 9 0 279 160 [(0, vr 246), (1, vi l1), (2, vi l2), (3, vi l3), (5, vw l5), (6, vi l6)] [] σ Q
def R_row_223 (l1 : Int) (l2 : Int) (l3 : Int) (l6 : Int) (l8 : Int) (σ : MS) (Q : MQ9) : Prop := WP 9 0 279 223 [(0, vr 246), (1, vi l1), (2, vi l2), (3, vi l3), (6, vi l6), (8, vw l8)] [] σ Q
def R_row_228 (l1 : Int) (l2 : Int) (l3 : Int) (l6 : Int) (l8 : Int) (s0 : Int) (σ : MS) (Q : MQ9) : Prop := WP 9 0 279 228 [(0, vr 246), (1, vi l1), (2, vi l2), (3, vi l3), (6, vi l6), (8, vw l8)] [vw s0] σ Q
def R_row_284 (l1 : Int) (l2 : Int) (l3 : Int) (l5 : Int) (l6 : Int) (l8 : Int) (l9 : Int) (s0 : Int) (σ : MS) (Q : MQ9) : Prop := WP 9 0 279 284 [(0, vr 246), (1, vi l1), (2, vi l2), (3, vi l3), (5, vw l5), (6, vi l6), (8, vw l8), (9, vi l9)] [vi s0] σ Q
def R_row_315 (l1 : Int) (l2 : Int) (l3 : Int) (l5 : Int) (l6 : Int) (σ : MS) (Q : MQ9) : Prop := WP 9 0 279 315 [(0, vr 246), (1, vi l1), (2, vi l2), (3, vi l3), (5, vw l5), (6, vi l6)] [] σ Q
def R_row_321 (l1 : Int) (l2 : Int) (l3 : Int) (l5 : Int) (σ : MS) (Q : MQ9) : Prop := WP 9 0 279 321 [(0, vr 246), (1, vi l1), (2, vi l2), (3, vi l3), (5, vw l5)] [] σ Q
def R_row_357 (l1 : Int) (l2 : Int) (l3 : Int) (l5 : Int) (σ : MS) (Q : MQ9) : Prop := WP 9 0 279 357 [(0, vr 246), (1, vi l1), (2, vi l2), (3, vi l3), (5, vw l5)] [] σ Q
def R_row_390 (l1 : Int) (l2 : Int) (l3 : Int) (l5 : Int) (s1 : Int) (σ : MS) (Q : MQ9) : Prop := WP 9 0 279 390 [(0, vr 246), (1, vi l1), (2, vi l2), (3, vi l3), (5, vw l5)] [vi s1, vr 314] σ Q
def R_row_391 (l1 : Int) (l2 : Int) (l3 : Int) (l5 : Int) (s1 : Int) (s2 : Int) (σ : MS) (Q : MQ9) : Prop := WP 9 0 279 391 [(0, vr 246), (1, vi l1), (2, vi l2), (3, vi l3), (5, vw l5)] [vw s2, vi s1, vr 314] σ Q
def R_ruled (l1 : Int) (σ : MS) (Q : MQ9) : Prop := WP 9 0 280 0 [(0, vr 246), (1, vi l1)] [] σ Q
def R_ruled_7 (l1 : Int) (l2 : Int) (σ : MS) (Q : MQ9) : Prop := WP 9 0 280 7 [(0, vr 246), (1, vi l1), (2, vi l2)] [] σ Q
def R_ruled_37 (l1 : Int) (l2 : Int) (σ : MS) (Q : MQ9) : Prop := WP 9 0 280 37 [(0, vr 246), (1, vi l1), (2, vi l2)] [] σ Q
def R_ruled_39 (l1 : Int) (l2 : Int) (l3 : Int) (σ : MS) (Q : MQ9) : Prop := WP 9 0 280 39 [(0, vr 246), (1, vi l1), (2, vi l2), (3, vi l3)] [] σ Q
def R_contents (σ : MS) (Q : MQ9) : Prop := WP 9 0 281 0 [(0, vr 246)] [] σ Q
def R_contents_14 (l1 : Int) (l2 : Int) (l3 : Int) (σ : MS) (Q : MQ9) : Prop := WP 9 0 281 14 [(0, vr 246), (1, vi l1), (2, vw l2), (3, vi l3)] [] σ Q
def R_contents_83 (l1 : Int) (l2 : Int) (l3 : Int) (l4 : Int) (l5 : Int) (σ : MS) (Q : MQ9) : Prop := WP 9 0 281 83 [(0, vr 246), (1, vi l1), (2, vw l2), (3, vi l3), (4, vi l4), (5, vi l5)] [] σ Q
def R_contents_91 (l1 : Int) (l2 : Int) (l3 : Int) (l4 : Int) (l5 : Int) (l6 : Int) (σ : MS) (Q : MQ9) : Prop := WP 9 0 281 91 [(0, vr 246), (1, vi l1), (2, vw l2), (3, vi l3), (4, vi l4), (5, vi l5), (6, vi l6)] [] σ Q
def R_contents_171 (l1 : Int) (l2 : Int) (l3 : Int) (l4 : Int) (l5 : Int) (l6 : Int) (s1 : Int) (σ : MS) (Q : MQ9) : Prop := WP 9 0 281 171 [(0, vr 246), (1, vi l1), (2, vw l2), (3, vi l3), (4, vi l4), (5, vi l5), (6, vi l6)] [vw s1, vr 246] σ Q
def R_contents_181 (l1 : Int) (l2 : Int) (l3 : Int) (σ : MS) (Q : MQ9) : Prop := WP 9 0 281 181 [(0, vr 246), (1, vi l1), (2, vw l2), (3, vi l3)] [] σ Q
def R_contents_217 (l1 : Int) (l2 : Int) (l3 : Int) (l6 : Int) (σ : MS) (Q : MQ9) : Prop := WP 9 0 281 217 [(0, vr 246), (1, vi l1), (2, vw l2), (3, vi l3), (6, vi l6)] [] σ Q
def R_contents_220 (l1 : Int) (l2 : Int) (l3 : Int) (l6 : Int) (l7 : Int) (σ : MS) (Q : MQ9) : Prop := WP 9 0 281 220 [(0, vr 246), (1, vi l1), (2, vw l2), (3, vi l3), (6, vi l6), (7, vi l7)] [] σ Q
def R_contents_250 (l1 : Int) (l2 : Int) (l3 : Int) (l7 : Int) (σ : MS) (Q : MQ9) : Prop := WP 9 0 281 250 [(0, vr 246), (1, vi l1), (2, vw l2), (3, vi l3), (7, vi l7)] [] σ Q
def R_contents_292 (l2 : Int) (σ : MS) (Q : MQ9) : Prop := WP 9 0 281 292 [(0, vr 246), (2, vw l2)] [] σ Q
def R_compare (l1 : Int) (l2 : Int) (σ : MS) (Q : MQ9) : Prop := WP 8 0 282 0 [(0, vr 246), (1, vi l1), (2, vi l2)] [] σ Q
def R_compare_30 (l1 : Int) (l2 : Int) (s0 : Int) (σ : MS) (Q : MQ9) : Prop := WP 8 0 282 30 [(0, vr 246), (1, vi l1), (2, vi l2)] [vw s0] σ Q
def R_compare_34 (l1 : Int) (l2 : Int) (l3 : Int) (l4 : Int) (σ : MS) (Q : MQ9) : Prop := WP 8 0 282 34 [(0, vr 246), (1, vi l1), (2, vi l2), (3, vw l3), (4, vi l4)] [] σ Q
def R_compare_123 (l1 : Int) (l2 : Int) (l3 : Int) (l4 : Int) (σ : MS) (Q : MQ9) : Prop := WP 8 0 282 123 [(0, vr 246), (1, vi l1), (2, vi l2), (3, vw l3), (4, vi l4)] [] σ Q
def R_keyBehind (l1 : Int) (l2 : Int) (σ : MS) (Q : MQ9) : Prop := WP 9 0 283 0 [(0, vr 246), (1, vi l1), (2, vi l2)] [] σ Q
def R_keyBehind_8 (l1 : Int) (l2 : Int) (l3 : Int) (l4 : Int) (σ : MS) (Q : MQ9) : Prop := WP 9 0 283 8 [(0, vr 246), (1, vi l1), (2, vi l2), (3, vi l3), (4, vi l4)] [] σ Q
def R_keyBehind_41 (l1 : Int) (l2 : Int) (l3 : Int) (l4 : Int) (σ : MS) (Q : MQ9) : Prop := WP 9 0 283 41 [(0, vr 246), (1, vi l1), (2, vi l2), (3, vi l3), (4, vi l4)] [] σ Q
def R_keyBehind_55 (l1 : Int) (l2 : Int) (l4 : Int) (σ : MS) (Q : MQ9) : Prop := WP 9 0 283 55 [(0, vr 246), (1, vi l1), (2, vi l2), (4, vi l4)] [] σ Q
def R_keyBehind_58 (l1 : Int) (l2 : Int) (l3 : Int) (l4 : Int) (σ : MS) (Q : MQ9) : Prop := WP 9 0 283 58 [(0, vr 246), (1, vi l1), (2, vi l2), (3, vi l3), (4, vi l4)] [] σ Q
def R_hasPage (l1 : Int) (l2 : Int) (l3 : Int) (σ : MS) (Q : MQ9) : Prop := WP 9 0 284 0 [(0, vr 246), (1, vi l1), (2, vi l2), (3, vi l3)] [] σ Q
def R_hasPage_9 (l1 : Int) (l2 : Int) (l3 : Int) (l4 : Int) (l5 : Int) (σ : MS) (Q : MQ9) : Prop := WP 9 0 284 9 [(0, vr 246), (1, vi l1), (2, vi l2), (3, vi l3), (4, vw l4), (5, vi l5)] [] σ Q
def R_hasPage_51 (l1 : Int) (l2 : Int) (l3 : Int) (l5 : Int) (σ : MS) (Q : MQ9) : Prop := WP 9 0 284 51 [(0, vr 246), (1, vi l1), (2, vi l2), (3, vi l3), (5, vi l5)] [] σ Q
def R_hasPage_55 (l1 : Int) (l2 : Int) (l3 : Int) (l5 : Int) (σ : MS) (Q : MQ9) : Prop := WP 9 0 284 55 [(0, vr 246), (1, vi l1), (2, vi l2), (3, vi l3), (5, vi l5)] [] σ Q
def R_hasPage_56 (l1 : Int) (l2 : Int) (l3 : Int) (l5 : Int) (s0 : Int) (σ : MS) (Q : MQ9) : Prop := WP 9 0 284 56 [(0, vr 246), (1, vi l1), (2, vi l2), (3, vi l3), (5, vi l5)] [vw s0] σ Q
def R_plain (l1 : Int) (σ : MS) (Q : MQ9) : Prop := WP 6 0 285 0 [(0, vr 246), (1, vi l1)] [] σ Q
def R_plainLabel (l1 : Int) (σ : MS) (Q : MQ9) : Prop := WP 9 0 286 0 [(0, vr 246), (1, vi l1)] [] σ Q
def R_plainLabel_17 (l2 : Int) (σ : MS) (Q : MQ9) : Prop := WP 9 0 286 17 [(0, vr 246), (2, vi l2)] [] σ Q
def R_register (σ : MS) (Q : MQ9) : Prop := WP 11 0 287 0 [(0, vr 246)] [] σ Q
def R_register_19 (l1 : Int) (l2 : Int) (l3 : Int) (σ : MS) (Q : MQ9) : Prop := WP 11 0 287 19 [(0, vr 246), (1, vi l1), (2, vw l2), (3, vw l3)] [] σ Q
def R_register_43 (l1 : Int) (l2 : Int) (l3 : Int) (l4 : Int) (σ : MS) (Q : MQ9) : Prop := WP 11 0 287 43 [(0, vr 246), (1, vi l1), (2, vw l2), (3, vw l3), (4, vi l4)] [] σ Q
def R_register_81 (l1 : Int) (l2 : Int) (l3 : Int) (l4 : Int) (σ : MS) (Q : MQ9) : Prop := WP 11 0 287 81 [(0, vr 246), (1, vi l1), (2, vw l2), (3, vw l3), (4, vi l4)] [] σ Q
def R_register_109 (l1 : Int) (l2 : Int) (l3 : Int) (l4 : Int) (l5 : Int) (σ : MS) (Q : MQ9) : Prop := WP 11 0 287 109 [(0, vr 246), (1, vi l1), (2, vw l2), (3, vw l3), (4, vi l4), (5, vi l5)] [] σ Q
def R_register_135 (l1 : Int) (l2 : Int) (l3 : Int) (l4 : Int) (l5 : Int) (σ : MS) (Q : MQ9) : Prop := WP 11 0 287 135 [(0, vr 246), (1, vi l1), (2, vw l2), (3, vw l3), (4, vi l4), (5, vi l5)] [] σ Q
def R_register_230 (l2 : Int) (σ : MS) (Q : MQ9) : Prop := WP 11 0 287 230 [(0, vr 246), (2, vw l2)] [] σ Q
def R_lineEnd (l1 : Int) (σ : MS) (Q : MQ9) : Prop := WP 6 0 288 0 [(0, vr 246), (1, vi l1)] [] σ Q
def R_lineEnd_27 (l1 : Int) (s0 : Int) (σ : MS) (Q : MQ9) : Prop := WP 6 0 288 27 [(0, vr 246), (1, vi l1)] [vi s0] σ Q
def R_splits (σ : MS) (Q : MQ9) : Prop := WP 6 0 289 0 [(0, vr 246)] [] σ Q
def R_splits_7 (l1 : Int) (σ : MS) (Q : MQ9) : Prop := WP 6 0 289 7 [(0, vr 246), (1, vi l1)] [] σ Q
def R_splits_35 (l1 : Int) (σ : MS) (Q : MQ9) : Prop := WP 6 0 289 35 [(0, vr 246), (1, vi l1)] [] σ Q
def R_splits_60 (l1 : Int) (σ : MS) (Q : MQ9) : Prop := WP 6 0 289 60 [(0, vr 246), (1, vi l1)] [] σ Q
def R_kindOf (l1 : Int) (σ : MS) (Q : MQ9) : Prop := WP 7 0 290 0 [(0, vr 246), (1, vi l1)] [] σ Q
def R_kindOf_16 (l2 : Int) (l3 : Int) (l4 : Int) (σ : MS) (Q : MQ9) : Prop := WP 7 0 290 16 [(0, vr 246), (2, vw l2), (3, vw l3), (4, vi l4)] [] σ Q
def R_kindOf_40 (l2 : Int) (l3 : Int) (l4 : Int) (σ : MS) (Q : MQ9) : Prop := WP 7 0 290 40 [(0, vr 246), (2, vw l2), (3, vw l3), (4, vi l4)] [] σ Q
def R_kindOf_101 (l2 : Int) (l3 : Int) (l5 : Int) (σ : MS) (Q : MQ9) : Prop := WP 7 0 290 101 [(0, vr 246), (2, vw l2), (3, vw l3), (5, vi l5)] [] σ Q
def R_kindOf_129 (l2 : Int) (l3 : Int) (l5 : Int) (σ : MS) (Q : MQ9) : Prop := WP 7 0 290 129 [(0, vr 246), (2, vw l2), (3, vw l3), (5, vi l5)] [] σ Q
def R_kindOf_205 (l3 : Int) (l4 : Int) (σ : MS) (Q : MQ9) : Prop := WP 7 0 290 205 [(0, vr 246), (3, vw l3), (4, vi l4)] [] σ Q
def R_kindOf_231 (σ : MS) (Q : MQ9) : Prop := WP 7 0 290 231 [] [] σ Q
def R_kindOf_232 (s0 : Int) (σ : MS) (Q : MQ9) : Prop := WP 7 0 290 232 [] [vw s0] σ Q
def R_round (σ : MS) (Q : MQ9) : Prop := WP 304 0 291 0 [(0, vr 246)] [] σ Q
def R_round_83 (l1 : Int) (σ : MS) (Q : MQ9) : Prop := WP 304 0 291 83 [(0, vr 246), (1, vi l1)] [] σ Q
def R_round_157 (l1 : Int) (l2 : Int) (σ : MS) (Q : MQ9) : Prop := WP 304 0 291 157 [(0, vr 246), (1, vi l1), (2, vi l2)] [] σ Q
def R_round_222 (l1 : Int) (l2 : Int) (l3 : Int) (l4 : Int) (σ : MS) (Q : MQ9) : Prop := WP 304 0 291 222 [(0, vr 246), (1, vi l1), (2, vi l2), (3, vw l3), (4, vi l4)] [] σ Q
def R_round_251 (l1 : Int) (l2 : Int) (l3 : Int) (l4 : Int) (σ : MS) (Q : MQ9) : Prop := WP 304 0 291 251 [(0, vr 246), (1, vi l1), (2, vi l2), (3, vw l3), (4, vi l4)] [] σ Q
def R_round_256 (l1 : Int) (l2 : Int) (l3 : Int) (l4 : Int) (σ : MS) (Q : MQ9) : Prop := WP 304 0 291 256 [(0, vr 246), (1, vi l1), (2, vi l2), (3, vw l3), (4, vi l4)] [] σ Q
def R_round_305 (l1 : Int) (l2 : Int) (l3 : Int) (l4 : Int) (σ : MS) (Q : MQ9) : Prop := WP 304 0 291 305 [(0, vr 246), (1, vi l1), (2, vi l2), (3, vw l3), (4, vi l4)] [] σ Q
def R_round_330 (l1 : Int) (l3 : Int) (l4 : Int) (s1 : Int) (s2 : Int) (s3 : Int) (s4 : Int) (σ : MS) (Q : MQ9) : Prop := WP 304 0 291 330 [(0, vr 246), (1, vi l1), (3, vw l3), (4, vi l4)] [vw s4, vi s3, vi s2, vw s1, vr 246] σ Q
def R_round_348 (l1 : Int) (s0 : Int) (σ : MS) (Q : MQ9) : Prop := WP 304 0 291 348 [(0, vr 246), (1, vi l1)] [vi s0] σ Q
def R_block (l1 : Int) (l2 : Int) (l3 : Int) (l4 : Int) (σ : MS) (Q : MQ9) : Prop := WP 303 0 292 0 [(0, vr 246), (1, vi l1), (2, vi l2), (3, vi l3), (4, vi l4)] [] σ Q
def R_block_88 (l5 : Int) (l6 : Int) (l7 : Int) (σ : MS) (Q : MQ9) : Prop := WP 303 0 292 88 [(0, vr 246), (5, vw l5), (6, vw l6), (7, vi l7)] [] σ Q
def R_block_131 (l4 : Int) (l5 : Int) (l6 : Int) (l7 : Int) (σ : MS) (Q : MQ9) : Prop := WP 303 0 292 131 [(0, vr 246), (4, vi l4), (5, vw l5), (6, vw l6), (7, vi l7)] [] σ Q
def R_block_172 (l4 : Int) (l6 : Int) (l7 : Int) (s1 : Int) (s2 : Int) (σ : MS) (Q : MQ9) : Prop := WP 303 0 292 172 [(4, vi l4), (6, vw l6), (7, vi l7)] [vw s2, vi s1, vr 246] σ Q
def R_lay (σ : MS) (Q : MQ9) : Prop := WP 11 0 293 0 [(0, vr 246)] [] σ Q
def R_lay_40 (l1 : Int) (s0 : Int) (s1 : Int) (σ : MS) (Q : MQ9) : Prop := WP 11 0 293 40 [(0, vr 246), (1, vw l1)] [vw s1, vw s0] σ Q
def R_lay_42 (l1 : Int) (l2 : Int) (σ : MS) (Q : MQ9) : Prop := WP 11 0 293 42 [(0, vr 246), (1, vi l1), (2, vi l2)] [] σ Q
def R_lay_49 (l1 : Int) (l2 : Int) (σ : MS) (Q : MQ9) : Prop := WP 11 0 293 49 [(0, vr 246), (1, vi l1), (2, vi l2)] [] σ Q
def R_lay_72 (l1 : Int) (l2 : Int) (σ : MS) (Q : MQ9) : Prop := WP 11 0 293 72 [(0, vr 246), (1, vi l1), (2, vi l2)] [] σ Q
def R_lay_124 (l1 : Int) (l2 : Int) (l3 : Int) (l4 : Int) (l5 : Int) (l6 : Int) (l7 : Int) (l8 : Int) (σ : MS) (Q : MQ9) : Prop := WP 11 0 293 124 [(0, vr 246), (1, vi l1), (2, vi l2), (3, vi l3), (4, vi l4), (5, vi l5), (6, vi l6), (7, vi l7), (8, vw l8)] [] σ Q
def R_lay_202 (l1 : Int) (l2 : Int) (l3 : Int) (l4 : Int) (l5 : Int) (l6 : Int) (l7 : Int) (s0 : Int) (s1 : Int) (σ : MS) (Q : MQ9) : Prop := WP 11 0 293 202 [(0, vr 246), (1, vi l1), (2, vi l2), (3, vi l3), (4, vi l4), (5, vi l5), (6, vi l6), (7, vi l7)] [vi s1, vi s0] σ Q
def R_lay_212 (l1 : Int) (l2 : Int) (l3 : Int) (l4 : Int) (l5 : Int) (l6 : Int) (l7 : Int) (s0 : Int) (σ : MS) (Q : MQ9) : Prop := WP 11 0 293 212 [(0, vr 246), (1, vi l1), (2, vi l2), (3, vi l3), (4, vi l4), (5, vi l5), (6, vi l6), (7, vi l7)] [vw s0] σ Q
def R_lay_249 (l1 : Int) (l2 : Int) (l3 : Int) (l4 : Int) (l6 : Int) (l7 : Int) (l8 : Int) (σ : MS) (Q : MQ9) : Prop := WP 11 0 293 249 [(0, vr 246), (1, vi l1), (2, vi l2), (3, vi l3), (4, vi l4), (6, vi l6), (7, vi l7), (8, vw l8)] [] σ Q
def R_lay_253 (l1 : Int) (l2 : Int) (l3 : Int) (l4 : Int) (l5 : Int) (l6 : Int) (l7 : Int) (l8 : Int) (σ : MS) (Q : MQ9) : Prop := WP 11 0 293 253 [(0, vr 246), (1, vi l1), (2, vi l2), (3, vi l3), (4, vi l4), (5, vi l5), (6, vi l6), (7, vi l7), (8, vw l8)] [] σ Q
def R_lay_259 (l1 : Int) (l2 : Int) (l5 : Int) (l6 : Int) (σ : MS) (Q : MQ9) : Prop := WP 11 0 293 259 [(0, vr 246), (1, vi l1), (2, vi l2), (5, vi l5), (6, vi l6)] [] σ Q
def R_lay_280 (l1 : Int) (l2 : Int) (l6 : Int) (s0 : Int) (σ : MS) (Q : MQ9) : Prop := WP 11 0 293 280 [(0, vr 246), (1, vi l1), (2, vi l2), (6, vi l6)] [vi s0] σ Q
def R_lay_300 (l2 : Int) (l9 : Int) (s1 : Int) (s2 : Int) (s3 : Int) (σ : MS) (Q : MQ9) : Prop := WP 11 0 293 300 [(0, vr 246), (2, vi l2), (9, vi l9)] [vi s3, vi s2, vi s1, vr 246] σ Q
def R_noteLines (l1 : Int) (σ : MS) (Q : MQ9) : Prop := WP 6 0 294 0 [(0, vr 246), (1, vi l1)] [] σ Q
def R_noteLines_9 (l1 : Int) (l2 : Int) (l3 : Int) (σ : MS) (Q : MQ9) : Prop := WP 6 0 294 9 [(0, vr 246), (1, vi l1), (2, vi l2), (3, vi l3)] [] σ Q
def R_proofLine (l1 : Int) (l2 : Int) (σ : MS) (Q : MQ9) : Prop := WP 6 0 295 0 [(0, vr 246), (1, vi l1), (2, vi l2)] [] σ Q
def R_proofSign (l1 : Int) (l2 : Int) (σ : MS) (Q : MQ9) : Prop := WP 6 0 296 0 [(0, vr 246), (1, vi l1), (2, vi l2)] [] σ Q
def R_proofCopy (l1 : Int) (σ : MS) (Q : MQ9) : Prop := WP 7 0 297 0 [(0, vr 246), (1, vi l1)] [] σ Q
def R_proofCopy_18 (l1 : Int) (l2 : Int) (σ : MS) (Q : MQ9) : Prop := WP 7 0 297 18 [(0, vr 246), (1, vi l1), (2, vi l2)] [] σ Q
def R_page (l1 : Int) (l2 : Int) (l3 : Int) (σ : MS) (Q : MQ9) : Prop := WP 10 0 298 0 [(0, vr 246), (1, vi l1), (2, vi l2), (3, vi l3)] [] σ Q
def R_page_40 (l1 : Int) (l2 : Int) (l3 : Int) (l4 : Int) (σ : MS) (Q : MQ9) : Prop := WP 10 0 298 40 [(0, vr 246), (1, vi l1), (2, vi l2), (3, vi l3), (4, vw l4)] [] σ Q
def R_page_46 (l1 : Int) (l2 : Int) (l3 : Int) (l4 : Int) (l5 : Int) (l6 : Int) (σ : MS) (Q : MQ9) : Prop := WP 10 0 298 46 [(0, vr 246), (1, vi l1), (2, vi l2), (3, vi l3), (4, vw l4), (5, vi l5), (6, vi l6)] [] σ Q
def R_page_114 (l1 : Int) (l2 : Int) (l3 : Int) (l4 : Int) (l5 : Int) (l6 : Int) (σ : MS) (Q : MQ9) : Prop := WP 10 0 298 114 [(0, vr 246), (1, vi l1), (2, vi l2), (3, vi l3), (4, vw l4), (5, vi l5), (6, vi l6)] [] σ Q
def R_page_132 (l1 : Int) (l2 : Int) (l4 : Int) (l5 : Int) (s0 : Int) (σ : MS) (Q : MQ9) : Prop := WP 10 0 298 132 [(0, vr 246), (1, vi l1), (2, vi l2), (4, vw l4), (5, vi l5)] [vi s0] σ Q
def R_page_139 (l1 : Int) (l2 : Int) (l4 : Int) (l6 : Int) (σ : MS) (Q : MQ9) : Prop := WP 10 0 298 139 [(0, vr 246), (1, vi l1), (2, vi l2), (4, vw l4), (6, vi l6)] [] σ Q
def R_page_179 (l1 : Int) (l2 : Int) (l6 : Int) (l7 : Int) (σ : MS) (Q : MQ9) : Prop := WP 10 0 298 179 [(0, vr 246), (1, vi l1), (2, vi l2), (6, vi l6), (7, vi l7)] [] σ Q
def R_page_202 (l2 : Int) (l6 : Int) (l7 : Int) (σ : MS) (Q : MQ9) : Prop := WP 10 0 298 202 [(0, vr 246), (2, vi l2), (6, vi l6), (7, vi l7)] [] σ Q
def R_page_239 (l2 : Int) (l6 : Int) (l7 : Int) (l8 : Int) (l9 : Int) (σ : MS) (Q : MQ9) : Prop := WP 10 0 298 239 [(0, vr 246), (2, vi l2), (6, vi l6), (7, vi l7), (8, vw l8), (9, vi l9)] [] σ Q
def R_page_260 (l2 : Int) (l6 : Int) (l7 : Int) (l8 : Int) (l9 : Int) (l10 : Int) (σ : MS) (Q : MQ9) : Prop := WP 10 0 298 260 [(0, vr 246), (2, vi l2), (6, vi l6), (7, vi l7), (8, vw l8), (9, vi l9), (10, vi l10)] [] σ Q
def R_page_292 (l2 : Int) (l6 : Int) (l7 : Int) (l8 : Int) (l9 : Int) (σ : MS) (Q : MQ9) : Prop := WP 10 0 298 292 [(0, vr 246), (2, vi l2), (6, vi l6), (7, vi l7), (8, vw l8), (9, vi l9)] [] σ Q
def R_page_298 (l2 : Int) (l6 : Int) (l7 : Int) (σ : MS) (Q : MQ9) : Prop := WP 10 0 298 298 [(0, vr 246), (2, vi l2), (6, vi l6), (7, vi l7)] [] σ Q
def R_page_304 (σ : MS) (Q : MQ9) : Prop := WP 10 0 298 304 [(0, vr 246)] [] σ Q
def R_head (l1 : Int) (σ : MS) (Q : MQ9) : Prop := WP 9 0 299 0 [(0, vr 246), (1, vi l1)] [] σ Q
def R_head_4 (l1 : Int) (l2 : Int) (l3 : Int) (σ : MS) (Q : MQ9) : Prop := WP 9 0 299 4 [(0, vr 246), (1, vi l1), (2, vi l2), (3, vi l3)] [] σ Q
def R_head_55 (l1 : Int) (l2 : Int) (l3 : Int) (σ : MS) (Q : MQ9) : Prop := WP 9 0 299 55 [(0, vr 246), (1, vi l1), (2, vi l2), (3, vi l3)] [] σ Q
def R_head_105 (l2 : Int) (l3 : Int) (σ : MS) (Q : MQ9) : Prop := WP 9 0 299 105 [(0, vr 246), (2, vi l2), (3, vi l3)] [] σ Q
def R_head_114 (l2 : Int) (l3 : Int) (l4 : Int) (σ : MS) (Q : MQ9) : Prop := WP 9 0 299 114 [(0, vr 246), (2, vi l2), (3, vi l3), (4, vi l4)] [] σ Q
def R_head_160 (l4 : Int) (σ : MS) (Q : MQ9) : Prop := WP 9 0 299 160 [(0, vr 246), (4, vi l4)] [] σ Q
def R_head_192 (l5 : Int) (σ : MS) (Q : MQ9) : Prop := WP 9 0 299 192 [(0, vr 246), (5, vi l5)] [] σ Q
def R_areSettled (σ : MS) (Q : MQ9) : Prop := WP 7 0 300 0 [(0, vr 246)] [] σ Q
def R_areSettled_67 (l1 : Int) (l2 : Int) (σ : MS) (Q : MQ9) : Prop := WP 7 0 300 67 [(0, vr 246), (1, vi l1), (2, vi l2)] [] σ Q
def R_areSettled_68 (l1 : Int) (l2 : Int) (s0 : Int) (σ : MS) (Q : MQ9) : Prop := WP 7 0 300 68 [(0, vr 246), (1, vi l1), (2, vi l2)] [vw s0] σ Q
def R_areSettled_72 (l1 : Int) (l2 : Int) (l3 : Int) (l4 : Int) (σ : MS) (Q : MQ9) : Prop := WP 7 0 300 72 [(0, vr 246), (1, vi l1), (2, vi l2), (3, vw l3), (4, vi l4)] [] σ Q
def R_areSettled_199 (l1 : Int) (l2 : Int) (l4 : Int) (σ : MS) (Q : MQ9) : Prop := WP 7 0 300 199 [(0, vr 246), (1, vi l1), (2, vi l2), (4, vi l4)] [] σ Q
def R_areSettled_200 (l1 : Int) (l2 : Int) (l4 : Int) (s0 : Int) (σ : MS) (Q : MQ9) : Prop := WP 7 0 300 200 [(0, vr 246), (1, vi l1), (2, vi l2), (4, vi l4)] [vw s0] σ Q
def R_areSettled_207 (l1 : Int) (l2 : Int) (l3 : Int) (σ : MS) (Q : MQ9) : Prop := WP 7 0 300 207 [(0, vr 246), (1, vi l1), (2, vi l2), (3, vw l3)] [] σ Q
def R_areSettled_210 (l1 : Int) (l2 : Int) (l3 : Int) (l4 : Int) (σ : MS) (Q : MQ9) : Prop := WP 7 0 300 210 [(0, vr 246), (1, vi l1), (2, vi l2), (3, vw l3), (4, vi l4)] [] σ Q
def R_areSettled_320 (l1 : Int) (l2 : Int) (l4 : Int) (σ : MS) (Q : MQ9) : Prop := WP 7 0 300 320 [(0, vr 246), (1, vi l1), (2, vi l2), (4, vi l4)] [] σ Q
def R_areSettled_321 (l1 : Int) (l2 : Int) (l4 : Int) (s0 : Int) (σ : MS) (Q : MQ9) : Prop := WP 7 0 300 321 [(0, vr 246), (1, vi l1), (2, vi l2), (4, vi l4)] [vw s0] σ Q
def R_areSettled_328 (l3 : Int) (σ : MS) (Q : MQ9) : Prop := WP 7 0 300 328 [(0, vr 246), (3, vw l3)] [] σ Q
def R_areSettled_349 (l1 : Int) (l2 : Int) (l3 : Int) (l4 : Int) (σ : MS) (Q : MQ9) : Prop := WP 7 0 300 349 [(0, vr 246), (1, vi l1), (2, vi l2), (3, vw l3), (4, vi l4)] [] σ Q
def R_areSettled_438 (l1 : Int) (l2 : Int) (l4 : Int) (σ : MS) (Q : MQ9) : Prop := WP 7 0 300 438 [(0, vr 246), (1, vi l1), (2, vi l2), (4, vi l4)] [] σ Q
def R_areSettled_439 (l1 : Int) (l2 : Int) (l4 : Int) (s0 : Int) (σ : MS) (Q : MQ9) : Prop := WP 7 0 300 439 [(0, vr 246), (1, vi l1), (2, vi l2), (4, vi l4)] [vw s0] σ Q
def R_areSame (l0 : Nat) (l1 : Int) (l2 : Int) (l3 : Int) (l4 : Int) (σ : MS) (Q : MQ9) : Prop := WP 6 0 301 0 [(0, vr l0), (1, vi l1), (2, vi l2), (3, vi l3), (4, vi l4)] [] σ Q
def R_areSame_11 (l0 : Nat) (l1 : Int) (l2 : Int) (l3 : Int) (s0 : Int) (σ : MS) (Q : MQ9) : Prop := WP 6 0 301 11 [(0, vr l0), (1, vi l1), (2, vi l2), (3, vi l3)] [vw s0] σ Q
def R_areSame_16 (l0 : Nat) (l1 : Int) (l2 : Int) (l3 : Int) (l5 : Int) (l6 : Int) (σ : MS) (Q : MQ9) : Prop := WP 6 0 301 16 [(0, vr l0), (1, vi l1), (2, vi l2), (3, vi l3), (5, vw l5), (6, vi l6)] [] σ Q
def R_areSame_47 (l0 : Nat) (l1 : Int) (l2 : Int) (l3 : Int) (l6 : Int) (s0 : Int) (σ : MS) (Q : MQ9) : Prop := WP 6 0 301 47 [(0, vr l0), (1, vi l1), (2, vi l2), (3, vi l3), (6, vi l6)] [vw s0] σ Q
def R_set (σ : MS) (Q : MQ9) : Prop := WP 305 0 302 0 [(0, vr 246)] [] σ Q
def R_set_15 (l1 : Int) (σ : MS) (Q : MQ9) : Prop := WP 305 0 302 15 [(0, vr 246), (1, vi l1)] [] σ Q
def R_set_96 (σ : MS) (Q : MQ9) : Prop := WP 305 0 302 96 [(0, vr 246)] [] σ Q
def R_set_186 (σ : MS) (Q : MQ9) : Prop := WP 305 0 302 186 [(0, vr 246)] [] σ Q
def R_set_198 (l1 : Int) (σ : MS) (Q : MQ9) : Prop := WP 305 0 302 198 [(0, vr 246), (1, vi l1)] [] σ Q
def R_set_244 (l1 : Int) (σ : MS) (Q : MQ9) : Prop := WP 305 0 302 244 [(0, vr 246), (1, vi l1)] [] σ Q
def R_set_290 (l1 : Int) (σ : MS) (Q : MQ9) : Prop := WP 305 0 302 290 [(0, vr 246), (1, vi l1)] [] σ Q
def R_set_347 (s1 : Int) (σ : MS) (Q : MQ9) : Prop := WP 305 0 302 347 [(0, vr 246)] [vw s1, vr 246] σ Q
def R_set_353 (σ : MS) (Q : MQ9) : Prop := WP 305 0 302 353 [(0, vr 246)] [] σ Q
def R_feed (l1 : Int) (l3 : Int) (l5 : Int) (σ : MS) (Q : MQ9) : Prop := WP 6 0 303 0 [(0, vr 246), (1, vl l1), (3, vl l3), (5, vl l5)] [] σ Q
def R_feed_8 (l1 : Int) (l3 : Int) (l5 : Int) (l7 : Int) (σ : MS) (Q : MQ9) : Prop := WP 6 0 303 8 [(0, vr 246), (1, vl l1), (3, vl l3), (5, vl l5), (7, vi l7)] [] σ Q
def R_feed_39 (l1 : Int) (l3 : Int) (l5 : Int) (l7 : Int) (s0 : Int) (σ : MS) (Q : MQ9) : Prop := WP 6 0 303 39 [(0, vr 246), (1, vl l1), (3, vl l3), (5, vl l5), (7, vi l7)] [vl s0] σ Q
def R_feed_93 (l1 : Int) (l3 : Int) (l5 : Int) (l7 : Int) (l10 : Int) (σ : MS) (Q : MQ9) : Prop := WP 6 0 303 93 [(0, vr 246), (1, vl l1), (3, vl l3), (5, vl l5), (7, vi l7), (10, vw l10)] [] σ Q
def R_feed_115 (l1 : Int) (l3 : Int) (l5 : Int) (l7 : Int) (σ : MS) (Q : MQ9) : Prop := WP 6 0 303 115 [(0, vr 246), (1, vl l1), (3, vl l3), (5, vl l5), (7, vi l7)] [] σ Q
def R_linesOf (σ : MS) (Q : MQ9) : Prop := WP 6 0 304 0 [(0, vr 246)] [] σ Q
def R_linesOf_4 (l1 : Int) (l2 : Int) (σ : MS) (Q : MQ9) : Prop := WP 6 0 304 4 [(0, vr 246), (1, vi l1), (2, vi l2)] [] σ Q
def R_linesOf_34 (l2 : Int) (s0 : Int) (σ : MS) (Q : MQ9) : Prop := WP 6 0 304 34 [(0, vr 246), (2, vi l2)] [vi s0] σ Q
def R_linesOf_39 (l2 : Int) (s0 : Int) (s1 : Int) (σ : MS) (Q : MQ9) : Prop := WP 6 0 304 39 [(0, vr 246), (2, vi l2)] [vw s1, vi s0] σ Q
def R_remembers (σ : MS) (Q : MQ9) : Prop := WP 6 0 305 0 [(0, vr 246)] [] σ Q
def R_remembers_11 (l1 : Int) (σ : MS) (Q : MQ9) : Prop := WP 6 0 305 11 [(0, vr 246), (1, vi l1)] [] σ Q
def R_remembers_42 (l1 : Int) (σ : MS) (Q : MQ9) : Prop := WP 6 0 305 42 [(0, vr 246), (1, vi l1)] [] σ Q
def R_remembers_72 (σ : MS) (Q : MQ9) : Prop := WP 6 0 305 72 [(0, vr 246)] [] σ Q
def R_remembers_74 (l1 : Int) (σ : MS) (Q : MQ9) : Prop := WP 6 0 305 74 [(0, vr 246), (1, vi l1)] [] σ Q
def R_write (σ : MS) (Q : MQ9) : Prop := WP 7 0 306 0 [(0, vr 246)] [] σ Q
def R_write_11 (l1 : Int) (σ : MS) (Q : MQ9) : Prop := WP 7 0 306 11 [(0, vr 246), (1, vi l1)] [] σ Q
def R_spendsEver (l1 : Int) (σ : MS) (Q : MQ9) : Prop := WP 6 0 307 0 [(0, vr 246), (1, vi l1)] [] σ Q
def R_add (σ : MS) (Q : MQ9) : Prop := WP 7 0 308 0 [(0, vr 246)] [] σ Q
def R_add_49 (l1 : Int) (l2 : Int) (σ : MS) (Q : MQ9) : Prop := WP 7 0 308 49 [(0, vr 246), (1, vw l1), (2, vi l2)] [] σ Q
def R_isInWord (l1 : Int) (σ : MS) (Q : MQ9) : Prop := WP 8 0 309 0 [(0, vr 246), (1, vi l1)] [] σ Q
def R_isInWord_36 (σ : MS) (Q : MQ9) : Prop := WP 8 0 309 36 [] [] σ Q
def R_standsAt (l1 : Int) (l2 : Int) (l3 : Int) (σ : MS) (Q : MQ9) : Prop := WP 9 0 310 0 [(0, vr 246), (1, vi l1), (2, vi l2), (3, vi l3)] [] σ Q
def R_standsAt_39 (l1 : Int) (l2 : Int) (l3 : Int) (σ : MS) (Q : MQ9) : Prop := WP 9 0 310 39 [(0, vr 246), (1, vi l1), (2, vi l2), (3, vi l3)] [] σ Q
def R_standsAt_45 (l1 : Int) (l2 : Int) (l3 : Int) (l4 : Int) (l5 : Int) (σ : MS) (Q : MQ9) : Prop := WP 9 0 310 45 [(0, vr 246), (1, vi l1), (2, vi l2), (3, vi l3), (4, vw l4), (5, vi l5)] [] σ Q
def R_standsAt_120 (l1 : Int) (l2 : Int) (l3 : Int) (l5 : Int) (s0 : Int) (σ : MS) (Q : MQ9) : Prop := WP 9 0 310 120 [(0, vr 246), (1, vi l1), (2, vi l2), (3, vi l3), (5, vi l5)] [vw s0] σ Q
def R_replace (l1 : Int) (σ : MS) (Q : MQ9) : Prop := WP 10 0 311 0 [(0, vr 246), (1, vi l1)] [] σ Q
def R_replace_25 (σ : MS) (Q : MQ9) : Prop := WP 10 0 311 25 [(0, vr 246)] [] σ Q
def R_replace_34 (l1 : Int) (l2 : Int) (l3 : Int) (σ : MS) (Q : MQ9) : Prop := WP 10 0 311 34 [(0, vr 246), (1, vi l1), (2, vw l2), (3, vi l3)] [] σ Q
def R_replace_56 (l1 : Int) (l2 : Int) (l3 : Int) (σ : MS) (Q : MQ9) : Prop := WP 10 0 311 56 [(0, vr 246), (1, vi l1), (2, vw l2), (3, vi l3)] [] σ Q
def R_replace_105 (l1 : Int) (l3 : Int) (l4 : Int) (l5 : Int) (l6 : Int) (l7 : Int) (σ : MS) (Q : MQ9) : Prop := WP 10 0 311 105 [(0, vr 246), (1, vi l1), (3, vi l3), (4, vi l4), (5, vi l5), (6, vi l6), (7, vi l7)] [] σ Q
def R_replace_149 (l1 : Int) (l3 : Int) (l4 : Int) (l5 : Int) (l6 : Int) (l7 : Int) (σ : MS) (Q : MQ9) : Prop := WP 10 0 311 149 [(0, vr 246), (1, vi l1), (3, vi l3), (4, vi l4), (5, vi l5), (6, vi l6), (7, vi l7)] [] σ Q
def R_replace_185 (l1 : Int) (l3 : Int) (l4 : Int) (l5 : Int) (l6 : Int) (l7 : Int) (l8 : Int) (l9 : Int) (l10 : Int) (σ : MS) (Q : MQ9) : Prop := WP 10 0 311 185 [(0, vr 246), (1, vi l1), (3, vi l3), (4, vi l4), (5, vi l5), (6, vi l6), (7, vi l7), (8, vi l8), (9, vw l9), (10, vi l10)] [] σ Q
def R_replace_214 (l1 : Int) (l3 : Int) (l4 : Int) (l5 : Int) (l6 : Int) (l7 : Int) (l9 : Int) (l10 : Int) (s0 : Int) (s1 : Int) (σ : MS) (Q : MQ9) : Prop := WP 10 0 311 214 [(0, vr 246), (1, vi l1), (3, vi l3), (4, vi l4), (5, vi l5), (6, vi l6), (7, vi l7), (9, vw l9), (10, vi l10)] [vw s1, vi s0] σ Q
def R_replace_242 (l1 : Int) (l3 : Int) (l4 : Int) (l5 : Int) (l6 : Int) (l7 : Int) (l8 : Int) (l10 : Int) (σ : MS) (Q : MQ9) : Prop := WP 10 0 311 242 [(0, vr 246), (1, vi l1), (3, vi l3), (4, vi l4), (5, vi l5), (6, vi l6), (7, vi l7), (8, vi l8), (10, vi l10)] [] σ Q
def R_replace_243 (l1 : Int) (l3 : Int) (l4 : Int) (l5 : Int) (l6 : Int) (l7 : Int) (l8 : Int) (l10 : Int) (s0 : Int) (σ : MS) (Q : MQ9) : Prop := WP 10 0 311 243 [(0, vr 246), (1, vi l1), (3, vi l3), (4, vi l4), (5, vi l5), (6, vi l6), (7, vi l7), (8, vi l8), (10, vi l10)] [vw s0] σ Q
def R_replace_254 (l1 : Int) (l3 : Int) (l4 : Int) (l5 : Int) (l6 : Int) (l7 : Int) (l8 : Int) (l9 : Int) (l10 : Int) (σ : MS) (Q : MQ9) : Prop := WP 10 0 311 254 [(0, vr 246), (1, vi l1), (3, vi l3), (4, vi l4), (5, vi l5), (6, vi l6), (7, vi l7), (8, vi l8), (9, vw l9), (10, vi l10)] [] σ Q
def R_replace_292 (l1 : Int) (l3 : Int) (l4 : Int) (l5 : Int) (l6 : Int) (l7 : Int) (l8 : Int) (l9 : Int) (l10 : Int) (l11 : Int) (σ : MS) (Q : MQ9) : Prop := WP 10 0 311 292 [(0, vr 246), (1, vi l1), (3, vi l3), (4, vi l4), (5, vi l5), (6, vi l6), (7, vi l7), (8, vi l8), (9, vw l9), (10, vi l10), (11, vw l11)] [] σ Q
def R_replace_310 (l1 : Int) (l3 : Int) (l4 : Int) (l5 : Int) (l6 : Int) (l7 : Int) (l8 : Int) (l9 : Int) (l10 : Int) (l11 : Int) (σ : MS) (Q : MQ9) : Prop := WP 10 0 311 310 [(0, vr 246), (1, vi l1), (3, vi l3), (4, vi l4), (5, vi l5), (6, vi l6), (7, vi l7), (8, vi l8), (9, vw l9), (10, vi l10), (11, vw l11)] [] σ Q
def R_replace_314 (l1 : Int) (l3 : Int) (l4 : Int) (l5 : Int) (l6 : Int) (l7 : Int) (l8 : Int) (l9 : Int) (l10 : Int) (l11 : Int) (σ : MS) (Q : MQ9) : Prop := WP 10 0 311 314 [(0, vr 246), (1, vi l1), (3, vi l3), (4, vi l4), (5, vi l5), (6, vi l6), (7, vi l7), (8, vi l8), (9, vw l9), (10, vi l10), (11, vw l11)] [] σ Q
def R_replace_315 (l1 : Int) (l3 : Int) (l4 : Int) (l5 : Int) (l6 : Int) (l7 : Int) (l8 : Int) (l9 : Int) (l10 : Int) (l11 : Int) (s0 : Int) (σ : MS) (Q : MQ9) : Prop := WP 10 0 311 315 [(0, vr 246), (1, vi l1), (3, vi l3), (4, vi l4), (5, vi l5), (6, vi l6), (7, vi l7), (8, vi l8), (9, vw l9), (10, vi l10), (11, vw l11)] [vw s0] σ Q
def R_replace_348 (l1 : Int) (l3 : Int) (l4 : Int) (l5 : Int) (l6 : Int) (l7 : Int) (l8 : Int) (l9 : Int) (l10 : Int) (s1 : Int) (s2 : Int) (σ : MS) (Q : MQ9) : Prop := WP 10 0 311 348 [(0, vr 246), (1, vi l1), (3, vi l3), (4, vi l4), (5, vi l5), (6, vi l6), (7, vi l7), (8, vi l8), (9, vw l9), (10, vi l10)] [vw s2, vi s1, vr 249] σ Q
def R_replace_350 (l1 : Int) (l3 : Int) (l4 : Int) (l5 : Int) (l6 : Int) (l7 : Int) (l8 : Int) (l9 : Int) (l10 : Int) (σ : MS) (Q : MQ9) : Prop := WP 10 0 311 350 [(0, vr 246), (1, vi l1), (3, vi l3), (4, vi l4), (5, vi l5), (6, vi l6), (7, vi l7), (8, vi l8), (9, vw l9), (10, vi l10)] [] σ Q
def R_replace_404 (l5 : Int) (l6 : Int) (l8 : Int) (σ : MS) (Q : MQ9) : Prop := WP 10 0 311 404 [(0, vr 246), (5, vi l5), (6, vi l6), (8, vi l8)] [] σ Q
def R_back (σ : MS) (Q : MQ9) : Prop := WP 6 0 312 0 [(0, vr 246)] [] σ Q
def R_back_39 (l1 : Int) (σ : MS) (Q : MQ9) : Prop := WP 6 0 312 39 [(0, vr 246), (1, vi l1)] [] σ Q
def R_find (l1 : Int) (σ : MS) (Q : MQ9) : Prop := WP 10 0 313 0 [(0, vr 246), (1, vi l1)] [] σ Q
def R_find_35 (l2 : Int) (l3 : Int) (σ : MS) (Q : MQ9) : Prop := WP 10 0 313 35 [(0, vr 246), (2, vw l2), (3, vi l3)] [] σ Q
def R_letter (l1 : Int) (σ : MS) (Q : MQ9) : Prop := WP 6 0 314 0 [(0, vr 246), (1, vi l1)] [] σ Q
def R_isThere (l1 : Int) (l2 : Int) (l3 : Int) (σ : MS) (Q : MQ9) : Prop := WP 6 0 315 0 [(0, vr 246), (1, vi l1), (2, vi l2), (3, vi l3)] [] σ Q
def R_isThere_51 (σ : MS) (Q : MQ9) : Prop := WP 6 0 315 51 [(0, vr 246)] [vr 246] σ Q
def R_isThere_55 (σ : MS) (Q : MQ9) : Prop := WP 6 0 315 55 [(0, vr 246)] [vr 246] σ Q
def R_isThere_56 (s1 : Int) (σ : MS) (Q : MQ9) : Prop := WP 6 0 315 56 [(0, vr 246)] [vw s1, vr 246] σ Q
def R_isSign (l1 : Int) (l2 : Int) (l3 : Int) (σ : MS) (Q : MQ9) : Prop := WP 7 0 316 0 [(0, vr 246), (1, vi l1), (2, vi l2), (3, vi l3)] [] σ Q
def R_isSign_33 (σ : MS) (Q : MQ9) : Prop := WP 7 0 316 33 [(0, vr 246)] [] σ Q
def R_isSign_38 (σ : MS) (Q : MQ9) : Prop := WP 7 0 316 38 [(0, vr 246)] [] σ Q
def R_pages (σ : MS) (Q : MQ9) : Prop := WP 6 0 317 0 [(0, vr 246)] [] σ Q
def R_pages_13 (s1 : Int) (σ : MS) (Q : MQ9) : Prop := WP 6 0 317 13 [(0, vr 246)] [vw s1, vr 246] σ Q
def R_lines (l1 : Int) (σ : MS) (Q : MQ9) : Prop := WP 7 0 318 0 [(0, vr 246), (1, vi l1)] [] σ Q
def R_length (l1 : Int) (l2 : Int) (σ : MS) (Q : MQ9) : Prop := WP 7 0 319 0 [(0, vr 246), (1, vi l1), (2, vi l2)] [] σ Q
def R_sign (l1 : Int) (l2 : Int) (l3 : Int) (σ : MS) (Q : MQ9) : Prop := WP 8 0 320 0 [(0, vr 246), (1, vi l1), (2, vi l2), (3, vi l3)] [] σ Q
def R_style (l1 : Int) (l2 : Int) (l3 : Int) (σ : MS) (Q : MQ9) : Prop := WP 8 0 321 0 [(0, vr 246), (1, vi l1), (2, vi l2), (3, vi l3)] [] σ Q
def R_origin (l1 : Int) (l2 : Int) (σ : MS) (Q : MQ9) : Prop := WP 7 0 322 0 [(0, vr 246), (1, vi l1), (2, vi l2)] [] σ Q
def R_labelled (σ : MS) (Q : MQ9) : Prop := WP 7 0 323 0 [(0, vr 246)] [] σ Q
def R_labelled_26 (l1 : Int) (l2 : Int) (σ : MS) (Q : MQ9) : Prop := WP 7 0 323 26 [(0, vr 246), (1, vw l1), (2, vi l2)] [] σ Q
def R_labelled_78 (l2 : Int) (l3 : Int) (σ : MS) (Q : MQ9) : Prop := WP 7 0 323 78 [(0, vr 246), (2, vw l2), (3, vi l3)] [] σ Q
def R_tell (σ : MS) (Q : MQ9) : Prop := WP 301 0 324 0 [(0, vr 246)] [] σ Q
def R_tell_17 (l1 : Int) (l2 : Int) (σ : MS) (Q : MQ9) : Prop := WP 301 0 324 17 [(0, vr 246), (1, vw l1), (2, vi l2)] [] σ Q
def R_tell_129 (l1 : Int) (l2 : Int) (l3 : Int) (l4 : Int) (l5 : Int) (l6 : Int) (σ : MS) (Q : MQ9) : Prop := WP 301 0 324 129 [(0, vr 246), (1, vw l1), (2, vw l2), (3, vw l3), (4, vw l4), (5, vw l5), (6, vw l6)] [] σ Q
def R_tell_202 (l7 : Int) (σ : MS) (Q : MQ9) : Prop := WP 301 0 324 202 [(0, vr 246), (7, vi l7)] [] σ Q
def R_hyphens (σ : MS) (Q : MQ9) : Prop := WP 9 0 325 0 [(0, vr 246)] [] σ Q
def R_hyphens_30 (l1 : Int) (σ : MS) (Q : MQ9) : Prop := WP 9 0 325 30 [(0, vr 246), (1, vw l1)] [] σ Q
def R_hyphens_31 (l1 : Int) (s0 : Int) (σ : MS) (Q : MQ9) : Prop := WP 9 0 325 31 [(0, vr 246), (1, vw l1)] [vw s0] σ Q
def R_hyphens_34 (l1 : Int) (l2 : Int) (l3 : Int) (σ : MS) (Q : MQ9) : Prop := WP 9 0 325 34 [(0, vr 246), (1, vw l1), (2, vw l2), (3, vi l3)] [] σ Q
def R_hyphens_59 (l1 : Int) (l2 : Int) (σ : MS) (Q : MQ9) : Prop := WP 9 0 325 59 [(0, vr 246), (1, vw l1), (2, vw l2)] [] σ Q
def R_hyphens_67 (l1 : Int) (l3 : Int) (σ : MS) (Q : MQ9) : Prop := WP 9 0 325 67 [(0, vr 246), (1, vw l1), (3, vi l3)] [] σ Q
def R_hyphens_125 (l1 : Int) (l3 : Int) (l4 : Int) (σ : MS) (Q : MQ9) : Prop := WP 9 0 325 125 [(0, vr 246), (1, vw l1), (3, vi l3), (4, vi l4)] [] σ Q
def R_hyphens_171 (l1 : Int) (l3 : Int) (l4 : Int) (σ : MS) (Q : MQ9) : Prop := WP 9 0 325 171 [(0, vr 246), (1, vw l1), (3, vi l3), (4, vi l4)] [] σ Q
def R_answer (l1 : Int) (σ : MS) (Q : MQ9) : Prop := WP 6 0 326 0 [(0, vr 246), (1, vi l1)] [] σ Q
def R_keep (σ : MS) (Q : MQ9) : Prop := WP 6 0 327 0 [(0, vr 246)] [] σ Q
def R_keep_13 (s1 : Int) (σ : MS) (Q : MQ9) : Prop := WP 6 0 327 13 [(0, vr 246)] [vw s1, vr 246] σ Q
def R_keep_27 (l1 : Int) (σ : MS) (Q : MQ9) : Prop := WP 6 0 327 27 [(0, vr 246), (1, vi l1)] [] σ Q
def R_keep_55 (l1 : Int) (σ : MS) (Q : MQ9) : Prop := WP 6 0 327 55 [(0, vr 246), (1, vi l1)] [] σ Q
def R_areRows (l0 : Nat) (l1 : Int) (l2 : Nat) (l3 : Int) (l4 : Int) (σ : MS) (Q : MQ9) : Prop := WP 6 0 328 0 [(0, vr l0), (1, vi l1), (2, vr l2), (3, vi l3), (4, vi l4)] [] σ Q
def R_areRows_6 (l0 : Nat) (l1 : Int) (l2 : Nat) (l3 : Int) (l4 : Int) (l5 : Int) (l6 : Int) (σ : MS) (Q : MQ9) : Prop := WP 6 0 328 6 [(0, vr l0), (1, vi l1), (2, vr l2), (3, vi l3), (4, vi l4), (5, vw l5), (6, vi l6)] [] σ Q
def R_areRows_38 (l0 : Nat) (l1 : Int) (l2 : Nat) (l3 : Int) (l4 : Int) (l6 : Int) (s0 : Int) (σ : MS) (Q : MQ9) : Prop := WP 6 0 328 38 [(0, vr l0), (1, vi l1), (2, vr l2), (3, vi l3), (4, vi l4), (6, vi l6)] [vw s0] σ Q
def R_isLine (l1 : Int) (l2 : Int) (σ : MS) (Q : MQ9) : Prop := WP 7 0 329 0 [(0, vr 246), (1, vi l1), (2, vi l2)] [] σ Q
def R_numbers (σ : MS) (Q : MQ9) : Prop := WP 8 0 330 0 [(0, vr 246)] [] σ Q
def R_numbers_2 (l1 : Int) (σ : MS) (Q : MQ9) : Prop := WP 8 0 330 2 [(0, vr 246), (1, vi l1)] [] σ Q
def R_numbers_12 (l1 : Int) (l2 : Int) (σ : MS) (Q : MQ9) : Prop := WP 8 0 330 12 [(0, vr 246), (1, vi l1), (2, vi l2)] [] σ Q
def R_numbers_64 (l1 : Int) (l2 : Int) (σ : MS) (Q : MQ9) : Prop := WP 8 0 330 64 [(0, vr 246), (1, vi l1), (2, vi l2)] [] σ Q
def R_numbers_70 (l1 : Int) (l2 : Int) (σ : MS) (Q : MQ9) : Prop := WP 8 0 330 70 [(0, vr 246), (1, vi l1), (2, vi l2)] [] σ Q
def R_numbers_85 (l1 : Int) (σ : MS) (Q : MQ9) : Prop := WP 8 0 330 85 [(0, vr 246), (1, vi l1)] [] σ Q
def R_numbers_95 (l1 : Int) (l2 : Int) (σ : MS) (Q : MQ9) : Prop := WP 8 0 330 95 [(0, vr 246), (1, vi l1), (2, vi l2)] [] σ Q
def R_numbers_118 (l1 : Int) (l2 : Int) (σ : MS) (Q : MQ9) : Prop := WP 8 0 330 118 [(0, vr 246), (1, vi l1), (2, vi l2)] [] σ Q
def R_numbers_136 (l1 : Int) (s1 : Int) (s2 : Int) (σ : MS) (Q : MQ9) : Prop := WP 8 0 330 136 [(0, vr 246), (1, vi l1)] [vi s2, vi s1, vr 333] σ Q
def R_common (σ : MS) (Q : MQ9) : Prop := WP 9 0 331 0 [(0, vr 246)] [] σ Q
def R_common_6 (l1 : Int) (σ : MS) (Q : MQ9) : Prop := WP 9 0 331 6 [(0, vr 246), (1, vi l1)] [] σ Q
def R_common_29 (l1 : Int) (σ : MS) (Q : MQ9) : Prop := WP 9 0 331 29 [(0, vr 246), (1, vi l1)] [] σ Q
def R_common_46 (l1 : Int) (l2 : Int) (σ : MS) (Q : MQ9) : Prop := WP 9 0 331 46 [(0, vr 246), (1, vi l1), (2, vi l2)] [] σ Q
def R_common_121 (l1 : Int) (l2 : Int) (s1 : Int) (s2 : Int) (σ : MS) (Q : MQ9) : Prop := WP 9 0 331 121 [(0, vr 246), (1, vi l1), (2, vi l2)] [vi s2, vi s1, vr 335] σ Q
def R_common_130 (l1 : Int) (l2 : Int) (σ : MS) (Q : MQ9) : Prop := WP 9 0 331 130 [(0, vr 246), (1, vi l1), (2, vi l2)] [] σ Q
def R_changed (l1 : Int) (σ : MS) (Q : MQ9) : Prop := WP 10 0 332 0 [(0, vr 246), (1, vi l1)] [] σ Q
def R_changed_15 (l1 : Int) (σ : MS) (Q : MQ9) : Prop := WP 10 0 332 15 [(0, vr 246), (1, vi l1)] [vr 246] σ Q
def R_changed_28 (l1 : Int) (σ : MS) (Q : MQ9) : Prop := WP 10 0 332 28 [(0, vr 246), (1, vi l1)] [vr 246] σ Q
def R_changed_33 (l1 : Int) (s1 : Int) (σ : MS) (Q : MQ9) : Prop := WP 10 0 332 33 [(0, vr 246), (1, vi l1)] [vw s1, vr 246] σ Q
def R_changed_65 (s0 : Int) (σ : MS) (Q : MQ9) : Prop := WP 10 0 332 65 [(0, vr 246)] [vw s0] σ Q
def R_changed_73 (l2 : Int) (σ : MS) (Q : MQ9) : Prop := WP 10 0 332 73 [(0, vr 246), (2, vi l2)] [] σ Q
def R_changed_104 (l2 : Int) (σ : MS) (Q : MQ9) : Prop := WP 10 0 332 104 [(0, vr 246), (2, vi l2)] [] σ Q
def R_count (l1 : Int) (σ : MS) (Q : MQ9) : Prop := WP 10 0 333 0 [(0, vr 246), (1, vi l1)] [] σ Q
def R_count_258 (l2 : Int) (l3 : Int) (σ : MS) (Q : MQ9) : Prop := WP 10 0 333 258 [(0, vr 246), (2, vi l2), (3, vw l3)] [] σ Q
def R_count_292 (l2 : Int) (l3 : Int) (σ : MS) (Q : MQ9) : Prop := WP 10 0 333 292 [(0, vr 246), (2, vi l2), (3, vi l3)] [] σ Q
def R_count_315 (l3 : Int) (s0 : Int) (s1 : Int) (σ : MS) (Q : MQ9) : Prop := WP 10 0 333 315 [(0, vr 246), (3, vi l3)] [vw s1, vi s0] σ Q
