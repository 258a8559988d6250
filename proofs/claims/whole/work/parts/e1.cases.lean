section LawCases
variable {p : Program} {l : Launch} {e : Env} {s : State} {m : MethodId} {args : Array Value} {below : List Frame} {meth : Method} {c : Code} {D : va_G} {G : SH} {lc : ClassId} {o b len cells slots : Nat} {A : Nat → Prop} {Q : State → Prop} {E : EV} {L : LV} {xs : Nat → Int32} {i : Int32} {st : ST} {M : MS × Int64}
theorem law_15 (F : LCx p s m args c D G lc o A E L b len xs) (hv : HVx i len) (hRc : cells ≤ room_1.cells ∧ slots ≤ room_1.slots) (hI : LIv G E L st M.1) (next : ∀ (N : MS × Int64) (st1 : ST), LIv G E L st1 N.1 → LW p l e room_1 s m args below meth c D G 7 lc o A cells slots Q 1485 (lvL b E L o i) [] N) : LW p l e room_1 s m args below meth c D G 7 lc o A cells slots Q 867 (lvL b E L o i) [] M := by
  obtain ⟨hE, hND, hM6, hI9, hI10⟩ := F.2.1
  refine q_aload_n (pc := 867) F.1 dL_law_867 rfl 1 rfl ?_
  refine q_aload_n (pc := 868) F.1 dL_law_868 rfl 0 rfl ?_
  refine q_iload (pc := 869) F.1 dL_law_869 4 rfl ?_
  refine q_iconst (pc := 871) (v := 1) F.1 dL_law_871 (by decide) ?_
  refine q_iadd (pc := 872) F.1 dL_law_872 ?_
  refine q_sld (pc := 873) F.1 F.2.2.1 F.2.2.2.1 F.2.2.2.2 hv.1 dL_law_873 ?_
  refine q_aload_n (pc := 874) F.1 dL_law_874 rfl 0 rfl ?_
  refine q_iload (pc := 875) F.1 dL_law_875 4 rfl ?_
  refine q_iconst (pc := 877) (v := 2) F.1 dL_law_877 (by decide) ?_
  refine q_iadd (pc := 878) F.1 dL_law_878 ?_
  refine q_sld (pc := 879) F.1 F.2.2.1 F.2.2.2.1 F.2.2.2.2 hv.2.1 dL_law_879 ?_
  refine q_aload_n (pc := 880) F.1 dL_law_880 rfl 0 rfl ?_
  refine q_iload (pc := 881) F.1 dL_law_881 4 rfl ?_
  refine q_iconst (pc := 883) (v := 3) F.1 dL_law_883 (by decide) ?_
  refine q_iadd (pc := 884) F.1 dL_law_884 ?_
  refine q_sld (pc := 885) F.1 F.2.2.1 F.2.2.2.1 F.2.2.2.2 hv.2.2.1 dL_law_885 ?_
  refine q_aload_n (pc := 886) F.1 dL_law_886 rfl 0 rfl ?_
  refine q_iload (pc := 887) F.1 dL_law_887 4 rfl ?_
  refine q_iconst (pc := 889) (v := 4) F.1 dL_law_889 (by decide) ?_
  refine q_iadd (pc := 890) F.1 dL_law_890 ?_
  refine q_sld (pc := 891) F.1 F.2.2.1 F.2.2.2.1 F.2.2.2.2 hv.2.2.2.1 dL_law_891 ?_
  refine q_callVi (pc := 892) (rest := []) (Qp := RE G M.1 E (oPow (en E) st (xs (i + 1).toNatClampNeg) (xs (i + 2).toNatClampNeg) (xs (i + 3).toNatClampNeg) (xs (i + 4).toNatClampNeg))) [.int (xs (i + 1).toNatClampNeg), .int (xs (i + 2).toNatClampNeg), .int (xs (i + 3).toNatClampNeg), .int (xs (i + 4).toNatClampNeg)] F.1 (c_X10_power hND hI.2.2 hI9 (m_pow hE hI.1 (fun N h => ⟨rfl, h⟩))) cf_X10_power cv_X10_power (gw_t3 143 rfl rfl) hI9 ⟨by decide, rfl, rfl⟩ ⟨rfl, rfl⟩ ⟨Nat.le_of_ble_eq_true rfl, Nat.le_of_ble_eq_true rfl⟩ hRc rfl rfl (Nat.le_of_ble_eq_true rfl) dL_law_892 (fun r1 N1 hq1 hT1 => ?_)
  have hK1 : KJ G N1 L (en E) (ew E) st := hI.2.1.keep (MI.kq hM6 hq1.2)
  refine q_aload_n (pc := 895) F.1 dL_law_895 rfl 2 rfl ?_
  refine q_aload_n (pc := 896) F.1 dL_law_896 rfl 0 rfl ?_
  refine q_iload (pc := 897) F.1 dL_law_897 4 rfl ?_
  refine q_iconst (pc := 899) (v := 1) F.1 dL_law_899 (by decide) ?_
  refine q_iadd (pc := 900) F.1 dL_law_900 ?_
  refine q_sld (pc := 901) F.1 F.2.2.1 F.2.2.2.1 F.2.2.2.2 hv.1 dL_law_901 ?_
  refine q_aload_n (pc := 902) F.1 dL_law_902 rfl 0 rfl ?_
  refine q_iload (pc := 903) F.1 dL_law_903 4 rfl ?_
  refine q_iconst (pc := 905) (v := 2) F.1 dL_law_905 (by decide) ?_
  refine q_iadd (pc := 906) F.1 dL_law_906 ?_
  refine q_sld (pc := 907) F.1 F.2.2.1 F.2.2.2.1 F.2.2.2.2 hv.2.1 dL_law_907 ?_
  refine q_aload_n (pc := 908) F.1 dL_law_908 rfl 0 rfl ?_
  refine q_iload (pc := 909) F.1 dL_law_909 4 rfl ?_
  refine q_iconst (pc := 911) (v := 3) F.1 dL_law_911 (by decide) ?_
  refine q_iadd (pc := 912) F.1 dL_law_912 ?_
  refine q_sld (pc := 913) F.1 F.2.2.1 F.2.2.2.1 F.2.2.2.2 hv.2.2.1 dL_law_913 ?_
  refine q_aload_n (pc := 914) F.1 dL_law_914 rfl 0 rfl ?_
  refine q_iload (pc := 915) F.1 dL_law_915 4 rfl ?_
  refine q_iconst (pc := 917) (v := 4) F.1 dL_law_917 (by decide) ?_
  refine q_iadd (pc := 918) F.1 dL_law_918 ?_
  refine q_sld (pc := 919) F.1 F.2.2.1 F.2.2.2.1 F.2.2.2.2 hv.2.2.2.1 dL_law_919 ?_
  refine q_callVi (pc := 920) (rest := [.int r1]) (Qp := RK G N1 L E (oPow (en E) st (xs (i + 1).toNatClampNeg) (xs (i + 2).toNatClampNeg) (xs (i + 3).toNatClampNeg) (xs (i + 4).toNatClampNeg))) [.int (xs (i + 1).toNatClampNeg), .int (xs (i + 2).toNatClampNeg), .int (xs (i + 3).toNatClampNeg), .int (xs (i + 4).toNatClampNeg)] F.1 (c_X11_power hND hT1 hI10 (k_pow hK1 (fun N g j _ => ⟨rfl, g, j⟩))) cf_X11_power cv_X11_power (gw_t5 135 rfl rfl) hI10 ⟨by decide, rfl, rfl⟩ ⟨rfl, rfl⟩ ⟨Nat.le_of_ble_eq_true rfl, Nat.le_of_ble_eq_true rfl⟩ hRc rfl rfl (Nat.le_of_ble_eq_true rfl) dL_law_920 (fun r2 N2 hq2 hT2 => ?_)
  exact q_icmp_eq (pc := 923) (tgt := 1485) F.1 dL_law_923 (by decide) (fun _ => next (N2, M.2) _ ⟨MI.kg hE hM6 hq1.2 hq2.2.1, hq2.2.2, hT2⟩) (fun hc => absurd (hq1.1.trans hq2.1.symm) hc)
theorem law_16 (F : LCx p s m args c D G lc o A E L b len xs) (hv : HVx i len) (hRc : cells ≤ room_1.cells ∧ slots ≤ room_1.slots) (hI : LIv G E L st M.1) (next : ∀ (N : MS × Int64) (st1 : ST), LIv G E L st1 N.1 → LW p l e room_1 s m args below meth c D G 7 lc o A cells slots Q 1485 (lvL b E L o i) [] N) : LW p l e room_1 s m args below meth c D G 7 lc o A cells slots Q 928 (lvL b E L o i) [] M := by
  obtain ⟨hE, hND, hM6, hI9, hI10⟩ := F.2.1
  refine q_aload_n (pc := 928) F.1 dL_law_928 rfl 1 rfl ?_
  refine q_aload_n (pc := 929) F.1 dL_law_929 rfl 0 rfl ?_
  refine q_iload (pc := 930) F.1 dL_law_930 4 rfl ?_
  refine q_iconst (pc := 932) (v := 1) F.1 dL_law_932 (by decide) ?_
  refine q_iadd (pc := 933) F.1 dL_law_933 ?_
  refine q_sld (pc := 934) F.1 F.2.2.1 F.2.2.2.1 F.2.2.2.2 hv.1 dL_law_934 ?_
  refine q_aload_n (pc := 935) F.1 dL_law_935 rfl 0 rfl ?_
  refine q_iload (pc := 936) F.1 dL_law_936 4 rfl ?_
  refine q_iconst (pc := 938) (v := 2) F.1 dL_law_938 (by decide) ?_
  refine q_iadd (pc := 939) F.1 dL_law_939 ?_
  refine q_sld (pc := 940) F.1 F.2.2.1 F.2.2.2.1 F.2.2.2.2 hv.2.1 dL_law_940 ?_
  refine q_callVi (pc := 941) (rest := []) (Qp := RE G M.1 E (oRoot (en E) st (xs (i + 1).toNatClampNeg) (xs (i + 2).toNatClampNeg) 2)) [.int (xs (i + 1).toNatClampNeg), .int (xs (i + 2).toNatClampNeg)] F.1 (c_X10_isqrt hND hI.2.2 hI9 (m_isqrt hE hI.1 (fun N h => ⟨rfl, h⟩))) cf_X10_isqrt cv_X10_isqrt (gw_t3 164 rfl rfl) hI9 ⟨by decide, rfl, rfl⟩ ⟨rfl, rfl⟩ ⟨Nat.le_of_ble_eq_true rfl, Nat.le_of_ble_eq_true rfl⟩ hRc rfl rfl (Nat.le_of_ble_eq_true rfl) dL_law_941 (fun r1 N1 hq1 hT1 => ?_)
  have hK1 : KJ G N1 L (en E) (ew E) st := hI.2.1.keep (MI.kq hM6 hq1.2)
  refine q_aload_n (pc := 944) F.1 dL_law_944 rfl 2 rfl ?_
  refine q_aload_n (pc := 945) F.1 dL_law_945 rfl 0 rfl ?_
  refine q_iload (pc := 946) F.1 dL_law_946 4 rfl ?_
  refine q_iconst (pc := 948) (v := 1) F.1 dL_law_948 (by decide) ?_
  refine q_iadd (pc := 949) F.1 dL_law_949 ?_
  refine q_sld (pc := 950) F.1 F.2.2.1 F.2.2.2.1 F.2.2.2.2 hv.1 dL_law_950 ?_
  refine q_aload_n (pc := 951) F.1 dL_law_951 rfl 0 rfl ?_
  refine q_iload (pc := 952) F.1 dL_law_952 4 rfl ?_
  refine q_iconst (pc := 954) (v := 2) F.1 dL_law_954 (by decide) ?_
  refine q_iadd (pc := 955) F.1 dL_law_955 ?_
  refine q_sld (pc := 956) F.1 F.2.2.1 F.2.2.2.1 F.2.2.2.2 hv.2.1 dL_law_956 ?_
  refine q_callVi (pc := 957) (rest := [.int r1]) (Qp := RK G N1 L E (oRoot (en E) st (xs (i + 1).toNatClampNeg) (xs (i + 2).toNatClampNeg) 2)) [.int (xs (i + 1).toNatClampNeg), .int (xs (i + 2).toNatClampNeg)] F.1 (c_X11_isqrt hND hT1 hI10 (by unfold w_X11_isqrt; exact k_root hK1 (fun N g j _ => ⟨rfl, g, j⟩))) cf_X11_isqrt cv_X11_isqrt (gw_t5 139 rfl rfl) hI10 ⟨by decide, rfl, rfl⟩ ⟨rfl, rfl⟩ ⟨Nat.le_of_ble_eq_true rfl, Nat.le_of_ble_eq_true rfl⟩ hRc rfl rfl (Nat.le_of_ble_eq_true rfl) dL_law_957 (fun r2 N2 hq2 hT2 => ?_)
  exact q_icmp_eq (pc := 960) (tgt := 1485) F.1 dL_law_960 (by decide) (fun _ => next (N2, M.2) _ ⟨MI.kg hE hM6 hq1.2 hq2.2.1, hq2.2.2, hT2⟩) (fun hc => absurd (hq1.1.trans hq2.1.symm) hc)
theorem law_17 (F : LCx p s m args c D G lc o A E L b len xs) (hv : HVx i len) (hRc : cells ≤ room_1.cells ∧ slots ≤ room_1.slots) (hI : LIv G E L st M.1) (next : ∀ (N : MS × Int64) (st1 : ST), LIv G E L st1 N.1 → LW p l e room_1 s m args below meth c D G 7 lc o A cells slots Q 1485 (lvL b E L o i) [] N) : LW p l e room_1 s m args below meth c D G 7 lc o A cells slots Q 965 (lvL b E L o i) [] M := by
  obtain ⟨hE, hND, hM6, hI9, hI10⟩ := F.2.1
  refine q_aload_n (pc := 965) F.1 dL_law_965 rfl 1 rfl ?_
  refine q_aload_n (pc := 966) F.1 dL_law_966 rfl 0 rfl ?_
  refine q_iload (pc := 967) F.1 dL_law_967 4 rfl ?_
  refine q_iconst (pc := 969) (v := 1) F.1 dL_law_969 (by decide) ?_
  refine q_iadd (pc := 970) F.1 dL_law_970 ?_
  refine q_sld (pc := 971) F.1 F.2.2.1 F.2.2.2.1 F.2.2.2.2 hv.1 dL_law_971 ?_
  refine q_aload_n (pc := 972) F.1 dL_law_972 rfl 0 rfl ?_
  refine q_iload (pc := 973) F.1 dL_law_973 4 rfl ?_
  refine q_iconst (pc := 975) (v := 2) F.1 dL_law_975 (by decide) ?_
  refine q_iadd (pc := 976) F.1 dL_law_976 ?_
  refine q_sld (pc := 977) F.1 F.2.2.1 F.2.2.2.1 F.2.2.2.2 hv.2.1 dL_law_977 ?_
  refine q_aload_n (pc := 978) F.1 dL_law_978 rfl 0 rfl ?_
  refine q_iload (pc := 979) F.1 dL_law_979 4 rfl ?_
  refine q_iconst (pc := 981) (v := 3) F.1 dL_law_981 (by decide) ?_
  refine q_iadd (pc := 982) F.1 dL_law_982 ?_
  refine q_sld (pc := 983) F.1 F.2.2.1 F.2.2.2.1 F.2.2.2.2 hv.2.2.1 dL_law_983 ?_
  refine q_callVi (pc := 984) (rest := []) (Qp := RE G M.1 E (oRoot (en E) st (xs (i + 1).toNatClampNeg) (xs (i + 2).toNatClampNeg) (xs (i + 3).toNatClampNeg))) [.int (xs (i + 1).toNatClampNeg), .int (xs (i + 2).toNatClampNeg), .int (xs (i + 3).toNatClampNeg)] F.1 (c_X10_root hND hI.2.2 hI9 (m_root hE hI.1 (fun N h => ⟨rfl, h⟩))) cf_X10_root cv_X10_root (gw_t3 194 rfl rfl) hI9 ⟨by decide, rfl, rfl⟩ ⟨rfl, rfl⟩ ⟨Nat.le_of_ble_eq_true rfl, Nat.le_of_ble_eq_true rfl⟩ hRc rfl rfl (Nat.le_of_ble_eq_true rfl) dL_law_984 (fun r1 N1 hq1 hT1 => ?_)
  have hK1 : KJ G N1 L (en E) (ew E) st := hI.2.1.keep (MI.kq hM6 hq1.2)
  refine q_aload_n (pc := 987) F.1 dL_law_987 rfl 2 rfl ?_
  refine q_aload_n (pc := 988) F.1 dL_law_988 rfl 0 rfl ?_
  refine q_iload (pc := 989) F.1 dL_law_989 4 rfl ?_
  refine q_iconst (pc := 991) (v := 1) F.1 dL_law_991 (by decide) ?_
  refine q_iadd (pc := 992) F.1 dL_law_992 ?_
  refine q_sld (pc := 993) F.1 F.2.2.1 F.2.2.2.1 F.2.2.2.2 hv.1 dL_law_993 ?_
  refine q_aload_n (pc := 994) F.1 dL_law_994 rfl 0 rfl ?_
  refine q_iload (pc := 995) F.1 dL_law_995 4 rfl ?_
  refine q_iconst (pc := 997) (v := 2) F.1 dL_law_997 (by decide) ?_
  refine q_iadd (pc := 998) F.1 dL_law_998 ?_
  refine q_sld (pc := 999) F.1 F.2.2.1 F.2.2.2.1 F.2.2.2.2 hv.2.1 dL_law_999 ?_
  refine q_aload_n (pc := 1000) F.1 dL_law_1000 rfl 0 rfl ?_
  refine q_iload (pc := 1001) F.1 dL_law_1001 4 rfl ?_
  refine q_iconst (pc := 1003) (v := 3) F.1 dL_law_1003 (by decide) ?_
  refine q_iadd (pc := 1004) F.1 dL_law_1004 ?_
  refine q_sld (pc := 1005) F.1 F.2.2.1 F.2.2.2.1 F.2.2.2.2 hv.2.2.1 dL_law_1005 ?_
  refine q_callVi (pc := 1006) (rest := [.int r1]) (Qp := RK G N1 L E (oRoot (en E) st (xs (i + 1).toNatClampNeg) (xs (i + 2).toNatClampNeg) (xs (i + 3).toNatClampNeg))) [.int (xs (i + 1).toNatClampNeg), .int (xs (i + 2).toNatClampNeg), .int (xs (i + 3).toNatClampNeg)] F.1 (c_X11_root hND hT1 hI10 (k_root hK1 (fun N g j _ => ⟨rfl, g, j⟩))) cf_X11_root cv_X11_root (gw_t5 155 rfl rfl) hI10 ⟨by decide, rfl, rfl⟩ ⟨rfl, rfl⟩ ⟨Nat.le_of_ble_eq_true rfl, Nat.le_of_ble_eq_true rfl⟩ hRc rfl rfl (Nat.le_of_ble_eq_true rfl) dL_law_1006 (fun r2 N2 hq2 hT2 => ?_)
  exact q_icmp_eq (pc := 1009) (tgt := 1485) F.1 dL_law_1009 (by decide) (fun _ => next (N2, M.2) _ ⟨MI.kg hE hM6 hq1.2 hq2.2.1, hq2.2.2, hT2⟩) (fun hc => absurd (hq1.1.trans hq2.1.symm) hc)
theorem law_18 (F : LCx p s m args c D G lc o A E L b len xs) (hv : HVx i len) (hRc : cells ≤ room_1.cells ∧ slots ≤ room_1.slots) (hI : LIv G E L st M.1) (next : ∀ (N : MS × Int64) (st1 : ST), LIv G E L st1 N.1 → LW p l e room_1 s m args below meth c D G 7 lc o A cells slots Q 1485 (lvL b E L o i) [] N) : LW p l e room_1 s m args below meth c D G 7 lc o A cells slots Q 1014 (lvL b E L o i) [] M := by
  obtain ⟨hE, hND, hM6, hI9, hI10⟩ := F.2.1
  refine q_aload_n (pc := 1014) F.1 dL_law_1014 rfl 1 rfl ?_
  refine q_aload_n (pc := 1015) F.1 dL_law_1015 rfl 0 rfl ?_
  refine q_iload (pc := 1016) F.1 dL_law_1016 4 rfl ?_
  refine q_iconst (pc := 1018) (v := 1) F.1 dL_law_1018 (by decide) ?_
  refine q_iadd (pc := 1019) F.1 dL_law_1019 ?_
  refine q_sld (pc := 1020) F.1 F.2.2.1 F.2.2.2.1 F.2.2.2.2 hv.1 dL_law_1020 ?_
  refine q_callVi (pc := 1021) (rest := []) (Qp := RE G M.1 E (oIsq (en E) st (xs (i + 1).toNatClampNeg))) [.int (xs (i + 1).toNatClampNeg)] F.1 (c_X10_isSquare hND hI.2.2 hI9 (m_isq hE hI.1 (fun N h => ⟨rfl, h⟩))) cf_X10_isSquare cv_X10_isSquare (gw_t3 198 rfl rfl) hI9 ⟨by decide, rfl, rfl⟩ ⟨rfl, rfl⟩ ⟨Nat.le_of_ble_eq_true rfl, Nat.le_of_ble_eq_true rfl⟩ hRc rfl rfl (Nat.le_of_ble_eq_true rfl) dL_law_1021 (fun r1 N1 hq1 hT1 => ?_)
  have hK1 : KJ G N1 L (en E) (ew E) st := hI.2.1.keep (MI.kq hM6 hq1.2)
  refine q_aload_n (pc := 1024) F.1 dL_law_1024 rfl 2 rfl ?_
  refine q_aload_n (pc := 1025) F.1 dL_law_1025 rfl 0 rfl ?_
  refine q_iload (pc := 1026) F.1 dL_law_1026 4 rfl ?_
  refine q_iconst (pc := 1028) (v := 1) F.1 dL_law_1028 (by decide) ?_
  refine q_iadd (pc := 1029) F.1 dL_law_1029 ?_
  refine q_sld (pc := 1030) F.1 F.2.2.1 F.2.2.2.1 F.2.2.2.2 hv.1 dL_law_1030 ?_
  refine q_callVi (pc := 1031) (rest := [.int r1]) (Qp := RK G N1 L E (oIsq (en E) st (xs (i + 1).toNatClampNeg))) [.int (xs (i + 1).toNatClampNeg)] F.1 (c_X11_isSquare hND hT1 hI10 (k_isq hK1 (fun N g j _ => ⟨rfl, g, j⟩))) cf_X11_isSquare cv_X11_isSquare (gw_t5 156 rfl rfl) hI10 ⟨by decide, rfl, rfl⟩ ⟨rfl, rfl⟩ ⟨Nat.le_of_ble_eq_true rfl, Nat.le_of_ble_eq_true rfl⟩ hRc rfl rfl (Nat.le_of_ble_eq_true rfl) dL_law_1031 (fun r2 N2 hq2 hT2 => ?_)
  exact q_icmp_eq (pc := 1034) (tgt := 1485) F.1 dL_law_1034 (by decide) (fun _ => next (N2, M.2) _ ⟨MI.kg hE hM6 hq1.2 hq2.2.1, hq2.2.2, hT2⟩) (fun hc => absurd (hq1.1.trans hq2.1.symm) hc)
theorem law_19 (F : LCx p s m args c D G lc o A E L b len xs) (hv : HVx i len) (hRc : cells ≤ room_1.cells ∧ slots ≤ room_1.slots) (hI : LIv G E L st M.1) (next : ∀ (N : MS × Int64) (st1 : ST), LIv G E L st1 N.1 → LW p l e room_1 s m args below meth c D G 7 lc o A cells slots Q 1485 (lvL b E L o i) [] N) : LW p l e room_1 s m args below meth c D G 7 lc o A cells slots Q 1039 (lvL b E L o i) [] M := by
  obtain ⟨hE, hND, hM6, hI9, hI10⟩ := F.2.1
  refine q_aload_n (pc := 1039) F.1 dL_law_1039 rfl 1 rfl ?_
  refine q_aload_n (pc := 1040) F.1 dL_law_1040 rfl 0 rfl ?_
  refine q_iload (pc := 1041) F.1 dL_law_1041 4 rfl ?_
  refine q_iconst (pc := 1043) (v := 1) F.1 dL_law_1043 (by decide) ?_
  refine q_iadd (pc := 1044) F.1 dL_law_1044 ?_
  refine q_sld (pc := 1045) F.1 F.2.2.1 F.2.2.2.1 F.2.2.2.2 hv.1 dL_law_1045 ?_
  refine q_aload_n (pc := 1046) F.1 dL_law_1046 rfl 0 rfl ?_
  refine q_iload (pc := 1047) F.1 dL_law_1047 4 rfl ?_
  refine q_iconst (pc := 1049) (v := 2) F.1 dL_law_1049 (by decide) ?_
  refine q_iadd (pc := 1050) F.1 dL_law_1050 ?_
  refine q_sld (pc := 1051) F.1 F.2.2.1 F.2.2.2.1 F.2.2.2.2 hv.2.1 dL_law_1051 ?_
  refine q_callVi (pc := 1052) (rest := []) (Qp := RE G M.1 E (oJac (en E) st (xs (i + 1).toNatClampNeg) (xs (i + 2).toNatClampNeg))) [.int (xs (i + 1).toNatClampNeg), .int (xs (i + 2).toNatClampNeg)] F.1 (c_X10_jacobi hND hI.2.2 hI9 (m_jac hE hI.1 (fun N h => ⟨rfl, h⟩))) cf_X10_jacobi cv_X10_jacobi (gw_t3 202 rfl rfl) hI9 ⟨by decide, rfl, rfl⟩ ⟨rfl, rfl⟩ ⟨Nat.le_of_ble_eq_true rfl, Nat.le_of_ble_eq_true rfl⟩ hRc rfl rfl (Nat.le_of_ble_eq_true rfl) dL_law_1052 (fun r1 N1 hq1 hT1 => ?_)
  have hK1 : KJ G N1 L (en E) (ew E) st := hI.2.1.keep (MI.kq hM6 hq1.2)
  refine q_aload_n (pc := 1055) F.1 dL_law_1055 rfl 2 rfl ?_
  refine q_aload_n (pc := 1056) F.1 dL_law_1056 rfl 0 rfl ?_
  refine q_iload (pc := 1057) F.1 dL_law_1057 4 rfl ?_
  refine q_iconst (pc := 1059) (v := 1) F.1 dL_law_1059 (by decide) ?_
  refine q_iadd (pc := 1060) F.1 dL_law_1060 ?_
  refine q_sld (pc := 1061) F.1 F.2.2.1 F.2.2.2.1 F.2.2.2.2 hv.1 dL_law_1061 ?_
  refine q_aload_n (pc := 1062) F.1 dL_law_1062 rfl 0 rfl ?_
  refine q_iload (pc := 1063) F.1 dL_law_1063 4 rfl ?_
  refine q_iconst (pc := 1065) (v := 2) F.1 dL_law_1065 (by decide) ?_
  refine q_iadd (pc := 1066) F.1 dL_law_1066 ?_
  refine q_sld (pc := 1067) F.1 F.2.2.1 F.2.2.2.1 F.2.2.2.2 hv.2.1 dL_law_1067 ?_
  refine q_callVi (pc := 1068) (rest := [.int r1]) (Qp := RK G N1 L E (oJac (en E) st (xs (i + 1).toNatClampNeg) (xs (i + 2).toNatClampNeg))) [.int (xs (i + 1).toNatClampNeg), .int (xs (i + 2).toNatClampNeg)] F.1 (c_X11_jacobi hND hT1 hI10 (k_jac hK1 (fun N g j _ => ⟨rfl, g, j⟩))) cf_X11_jacobi cv_X11_jacobi (gw_t5 160 rfl rfl) hI10 ⟨by decide, rfl, rfl⟩ ⟨rfl, rfl⟩ ⟨Nat.le_of_ble_eq_true rfl, Nat.le_of_ble_eq_true rfl⟩ hRc rfl rfl (Nat.le_of_ble_eq_true rfl) dL_law_1068 (fun r2 N2 hq2 hT2 => ?_)
  exact q_icmp_eq (pc := 1071) (tgt := 1485) F.1 dL_law_1071 (by decide) (fun _ => next (N2, M.2) _ ⟨MI.kg hE hM6 hq1.2 hq2.2.1, hq2.2.2, hT2⟩) (fun hc => absurd (hq1.1.trans hq2.1.symm) hc)
theorem law_20 (F : LCx p s m args c D G lc o A E L b len xs) (hst : l.stackTraces = false) (hTW : TW A s s.heap) (hv : HVx i len) (hRc : cells + 1 ≤ room_1.cells ∧ slots + 6 ≤ room_1.slots) (hI : LIv G E L st M.1) (next : ∀ (N : MS × Int64) (st1 : ST), LIv G E L st1 N.1 → LW p l e room_1 s m args below meth c D G 7 lc o A (cells + 1) (slots + 6) Q 1485 (lvL b E L o i) [] N) : LW p l e room_1 s m args below meth c D G 7 lc o A cells slots Q 1076 (lvL b E L o i) [] M := by
  obtain ⟨hE, hND, hM6, hI9, hI10⟩ := F.2.1
  have ho := F.1.2.2.2.2.2.2.2.1
  refine q_aload_n (pc := 1076) F.1 dL_law_1076 rfl 1 rfl ?_
  refine q_aload_n (pc := 1077) F.1 dL_law_1077 rfl 0 rfl ?_
  refine q_iload (pc := 1078) F.1 dL_law_1078 4 rfl ?_
  refine q_iconst (pc := 1080) (v := 1) F.1 dL_law_1080 (by decide) ?_
  refine q_iadd (pc := 1081) F.1 dL_law_1081 ?_
  refine q_sld (pc := 1082) F.1 F.2.2.1 F.2.2.2.1 F.2.2.2.2 hv.1 dL_law_1082 ?_
  refine q_aload_n (pc := 1083) F.1 dL_law_1083 rfl 3 rfl ?_
  have fin : ∀ (k : Int32) (N1 : MS × Int64), (isR (en E) (xs (i + 1).toNatClampNeg) → k = 0 ∧ N1.2 = ((oSgn (en E) st (xs (i + 1).toNatClampNeg)).2).toInt64 ∧ MI G M.1 N1.1 E (oSgn (en E) st (xs (i + 1).toNatClampNeg)).1) → (¬ isR (en E) (xs (i + 1).toNatClampNeg) → k = 1 ∧ N1 = M) → TYR G N1.1.2.2.1 → LW p l e room_1 s m args below meth c D G 7 lc o A (cells + 1) (slots + 6) Q 1087 (lvL b E L o i) [.int k] N1 := by
    intro k N1 hA hB hT1
    have hMI : MI G M.1 N1.1 E (oSgn (en E) st (xs (i + 1).toNatClampNeg)).1 := by
      by_cases hr : isR (en E) (xs (i + 1).toNatClampNeg)
      · exact (hA hr).2.2
      · rw [(hB hr).2]
        have e : (oSgn (en E) st (xs (i + 1).toNatClampNeg)).1 = st := rfl
        rw [e]
        exact hI.1
    have hK1 : KJ G N1.1 L (en E) (ew E) st := hI.2.1.keep (MI.kq hM6 hMI)
    refine q_istore (pc := 1087) F.1 dL_law_1087 (by decide) [1, 2, 3, 4, 5, 0] rfl ?_
    refine q_aload_n (pc := 1089) F.1 dL_law_1089 rfl 2 rfl ?_
    refine q_aload_n (pc := 1090) F.1 dL_law_1090 rfl 0 rfl ?_
    refine q_iload (pc := 1091) F.1 dL_law_1091 4 rfl ?_
    refine q_iconst (pc := 1093) (v := 1) F.1 dL_law_1093 (by decide) ?_
    refine q_iadd (pc := 1094) F.1 dL_law_1094 ?_
    refine q_sld (pc := 1095) F.1 F.2.2.1 F.2.2.2.1 F.2.2.2.2 hv.1 dL_law_1095 ?_
    refine q_callVi (pc := 1096) (rest := []) (Qp := RX G N1.1 L E (xs (i + 1).toNatClampNeg) (oSgn (en E) st (xs (i + 1).toNatClampNeg))) [.int (xs (i + 1).toNatClampNeg)] F.1 (c_X11_sign hND hT1 hI10 (k_sgn hK1 (fun N g j t => ⟨rfl, g, j, t⟩))) cf_X11_sign cv_X11_sign (gw_t5 164 rfl rfl) hI10 ⟨by decide, rfl, rfl⟩ ⟨rfl, rfl⟩ ⟨Nat.le_of_ble_eq_true rfl, Nat.le_of_ble_eq_true rfl⟩ hRc rfl rfl (Nat.le_of_ble_eq_true rfl) dL_law_1096 (fun r2 N2 hq2 hT2 => ?_)
    refine q_istore (pc := 1099) F.1 dL_law_1099 (by decide) [1, 2, 3, 4, 5, 6, 0] rfl ?_
    refine q_aload_n (pc := 1101) F.1 dL_law_1101 rfl 2 rfl ?_
    refine q_callVi (pc := 1102) (rest := []) (Qp := fun v N => v = mI N2 (kO L.1) 5 ∧ N = N2) [] F.1 (c_X11_thrown hND hT2 hI10 (by unfold w_X11_thrown; exact ⟨rfl, rfl⟩)) cf_X11_thrown cv_X11_thrown (gw_t4 195 rfl rfl) hI10 ⟨by decide, rfl, rfl⟩ ⟨rfl, rfl⟩ ⟨Nat.le_of_ble_eq_true rfl, Nat.le_of_ble_eq_true rfl⟩ hRc rfl rfl (Nat.le_of_ble_eq_true rfl) dL_law_1102 (fun v N3 hq3 hT3 => ?_)
    obtain ⟨e3, rfl⟩ := hq3
    refine q_iload (pc := 1105) F.1 dL_law_1105 5 rfl ?_
    have ek : v = k := by
      rw [e3, hq2.2.2.2]
      by_cases hr : isR (en E) (xs (i + 1).toNatClampNeg)
      · rw [if_pos hr, (hA hr).1]
      · rw [if_neg hr, (hB hr).1]
    refine q_icmp_eq (pc := 1107) (tgt := 1112) F.1 dL_law_1107 (by decide) (fun _ => ?_) (fun hc => absurd ek hc)
    have last : ∀ z : Int64, LW p l e room_1 s m args below meth c D G 7 lc o A (cells + 1) (slots + 6) Q 1129 [(0, .ref b), (1, .ref (eA E 0)), (2, .ref (kO L.1)), (3, .ref o), (4, .int i), (5, .int k), (6, .int r2)] [] (N3, z) := fun z => q_goto (pc := 1129) (tgt := 1485) F.1 dL_law_1129 (by decide) (q_perm [0, 1, 2, 3, 4] rfl (next (N3, z) _ ⟨MI.kg hE hM6 hMI hq2.2.1, hq2.2.2.1, hT3⟩))
    refine q_iload (pc := 1112) F.1 dL_law_1112 5 rfl ?_
    refine q_if_ne (pc := 1114) (tgt := 1129) F.1 dL_law_1114 (by decide) (fun _ => last N1.2) (fun hk => ?_)
    have hr : isR (en E) (xs (i + 1).toNatClampNeg) := Classical.byContradiction fun z => absurd ((hB z).1.symm.trans hk) (by decide)
    refine q_aload_n (pc := 1117) F.1 dL_law_1117 rfl 3 rfl ?_
    refine q_iconst (pc := 1118) (v := 0) F.1 dL_law_1118 (by decide) ?_
    refine q_lald (pc := 1119) F.1 dL_law_1119 ?_
    refine q_iload (pc := 1120) F.1 dL_law_1120 6 rfl ?_
    refine q_i2l (pc := 1122) F.1 dL_law_1122 ?_
    refine q_lcmp (pc := 1123) F.1 dL_law_1123 ?_
    have ez : N1.2 = r2.toInt64 := by rw [(hA hr).2.1, hq2.1]
    exact q_if_eq (pc := 1124) (tgt := 1129) F.1 dL_law_1124 (by decide) (fun _ => last N1.2) (fun hc => absurd (by rw [ez]; show lg_cmp r2.toInt64 r2.toInt64 = 0; unfold lg_cmp; simp) hc)
  by_cases hr : isR (en E) (xs (i + 1).toNatClampNeg)
  · refine q_callH (pc := 1084) (n := 3) (rest := []) [.ref (eA E 0), .int (xs (i + 1).toNatClampNeg), .ref o] F.1 hTW (h_sign_ret hND ho hI9 (g_sign hE hI.1 hr hND hI.2.2 hI9)) (gw_t4 34 rfl rfl) (gw_t1 0 rfl rfl) (gw_t4 33 rfl rfl) (gw_t4 32 rfl rfl) (by decide +kernel) ⟨Nat.le_of_ble_eq_true rfl, Nat.le_of_ble_eq_true rfl⟩ hRc rfl rfl (Nat.le_of_ble_eq_true rfl) dL_law_1084 (fun k N hq hT => ?_)
    obtain ⟨hk, u, N1, ⟨hu, hN⟩, rfl⟩ := hq
    exact fin k (N1, u.toInt64) (fun _ => ⟨hk, by rw [hu], hN⟩) (fun z => absurd hr z) hT
  · refine q_callH (pc := 1084) (n := 3) (rest := []) [.ref (eA E 0), .int (xs (i + 1).toNatClampNeg), .ref o] F.1 hTW (h_sign_thr hND ho hI9 hI.2.2 (c_X10_signT hst hND hI.2.2 hI9 (hI.1.no hE hr))) (gw_t4 34 rfl rfl) (gw_t1 0 rfl rfl) (gw_t4 33 rfl rfl) (gw_t4 32 rfl rfl) (by decide +kernel) ⟨Nat.le_of_ble_eq_true rfl, Nat.le_of_ble_eq_true rfl⟩ hRc rfl rfl (Nat.le_of_ble_eq_true rfl) dL_law_1084 (fun k N hq hT => ?_)
    exact fin k N (fun z => absurd z hr) (fun _ => hq) hT
theorem law_21 (F : LCx p s m args c D G lc o A E L b len xs) (hst : l.stackTraces = false) (hTW : TW A s s.heap) (hv : HVx i len) (hRc : cells + 1 ≤ room_1.cells ∧ slots + 6 ≤ room_1.slots) (hI : LIv G E L st M.1) (next : ∀ (N : MS × Int64) (st1 : ST), LIv G E L st1 N.1 → LW p l e room_1 s m args below meth c D G 7 lc o A (cells + 1) (slots + 6) Q 1485 (lvL b E L o i) [] N) : LW p l e room_1 s m args below meth c D G 7 lc o A cells slots Q 1132 (lvL b E L o i) [] M := by
  obtain ⟨hE, hND, hM6, hI9, hI10⟩ := F.2.1
  have ho := F.1.2.2.2.2.2.2.2.1
  refine q_aload_n (pc := 1132) F.1 dL_law_1132 rfl 1 rfl ?_
  refine q_aload_n (pc := 1133) F.1 dL_law_1133 rfl 0 rfl ?_
  refine q_iload (pc := 1134) F.1 dL_law_1134 4 rfl ?_
  refine q_iconst (pc := 1136) (v := 1) F.1 dL_law_1136 (by decide) ?_
  refine q_iadd (pc := 1137) F.1 dL_law_1137 ?_
  refine q_sld (pc := 1138) F.1 F.2.2.1 F.2.2.2.1 F.2.2.2.2 hv.1 dL_law_1138 ?_
  refine q_aload_n (pc := 1139) F.1 dL_law_1139 rfl 3 rfl ?_
  have fin : ∀ (k : Int32) (N1 : MS × Int64), (isR (en E) (xs (i + 1).toNatClampNeg) → k = 0 ∧ N1.2 = ((oLen (en E) st (xs (i + 1).toNatClampNeg)).2).toInt64 ∧ MI G M.1 N1.1 E (oLen (en E) st (xs (i + 1).toNatClampNeg)).1) → (¬ isR (en E) (xs (i + 1).toNatClampNeg) → k = 1 ∧ N1 = M) → TYR G N1.1.2.2.1 → LW p l e room_1 s m args below meth c D G 7 lc o A (cells + 1) (slots + 6) Q 1143 (lvL b E L o i) [.int k] N1 := by
    intro k N1 hA hB hT1
    have hMI : MI G M.1 N1.1 E (oLen (en E) st (xs (i + 1).toNatClampNeg)).1 := by
      by_cases hr : isR (en E) (xs (i + 1).toNatClampNeg)
      · exact (hA hr).2.2
      · rw [(hB hr).2]
        have e : (oLen (en E) st (xs (i + 1).toNatClampNeg)).1 = st := rfl
        rw [e]
        exact hI.1
    have hK1 : KJ G N1.1 L (en E) (ew E) st := hI.2.1.keep (MI.kq hM6 hMI)
    refine q_istore (pc := 1143) F.1 dL_law_1143 (by decide) [1, 2, 3, 4, 5, 0] rfl ?_
    refine q_aload_n (pc := 1145) F.1 dL_law_1145 rfl 2 rfl ?_
    refine q_aload_n (pc := 1146) F.1 dL_law_1146 rfl 0 rfl ?_
    refine q_iload (pc := 1147) F.1 dL_law_1147 4 rfl ?_
    refine q_iconst (pc := 1149) (v := 1) F.1 dL_law_1149 (by decide) ?_
    refine q_iadd (pc := 1150) F.1 dL_law_1150 ?_
    refine q_sld (pc := 1151) F.1 F.2.2.1 F.2.2.2.1 F.2.2.2.2 hv.1 dL_law_1151 ?_
    refine q_callVi (pc := 1152) (rest := []) (Qp := RX G N1.1 L E (xs (i + 1).toNatClampNeg) (oLen (en E) st (xs (i + 1).toNatClampNeg))) [.int (xs (i + 1).toNatClampNeg)] F.1 (c_X11_length hND hT1 hI10 (k_len hK1 (fun N g j t => ⟨rfl, g, j, t⟩))) cf_X11_length cv_X11_length (gw_t5 172 rfl rfl) hI10 ⟨by decide, rfl, rfl⟩ ⟨rfl, rfl⟩ ⟨Nat.le_of_ble_eq_true rfl, Nat.le_of_ble_eq_true rfl⟩ hRc rfl rfl (Nat.le_of_ble_eq_true rfl) dL_law_1152 (fun r2 N2 hq2 hT2 => ?_)
    refine q_istore (pc := 1155) F.1 dL_law_1155 (by decide) [1, 2, 3, 4, 5, 6, 0] rfl ?_
    refine q_aload_n (pc := 1157) F.1 dL_law_1157 rfl 2 rfl ?_
    refine q_callVi (pc := 1158) (rest := []) (Qp := fun v N => v = mI N2 (kO L.1) 5 ∧ N = N2) [] F.1 (c_X11_thrown hND hT2 hI10 (by unfold w_X11_thrown; exact ⟨rfl, rfl⟩)) cf_X11_thrown cv_X11_thrown (gw_t4 195 rfl rfl) hI10 ⟨by decide, rfl, rfl⟩ ⟨rfl, rfl⟩ ⟨Nat.le_of_ble_eq_true rfl, Nat.le_of_ble_eq_true rfl⟩ hRc rfl rfl (Nat.le_of_ble_eq_true rfl) dL_law_1158 (fun v N3 hq3 hT3 => ?_)
    obtain ⟨e3, rfl⟩ := hq3
    refine q_iload (pc := 1161) F.1 dL_law_1161 5 rfl ?_
    have ek : v = k := by
      rw [e3, hq2.2.2.2]
      by_cases hr : isR (en E) (xs (i + 1).toNatClampNeg)
      · rw [if_pos hr, (hA hr).1]
      · rw [if_neg hr, (hB hr).1]
    refine q_icmp_eq (pc := 1163) (tgt := 1168) F.1 dL_law_1163 (by decide) (fun _ => ?_) (fun hc => absurd ek hc)
    have last : ∀ z : Int64, LW p l e room_1 s m args below meth c D G 7 lc o A (cells + 1) (slots + 6) Q 1185 [(0, .ref b), (1, .ref (eA E 0)), (2, .ref (kO L.1)), (3, .ref o), (4, .int i), (5, .int k), (6, .int r2)] [] (N3, z) := fun z => q_goto (pc := 1185) (tgt := 1485) F.1 dL_law_1185 (by decide) (q_perm [0, 1, 2, 3, 4] rfl (next (N3, z) _ ⟨MI.kg hE hM6 hMI hq2.2.1, hq2.2.2.1, hT3⟩))
    refine q_iload (pc := 1168) F.1 dL_law_1168 5 rfl ?_
    refine q_if_ne (pc := 1170) (tgt := 1185) F.1 dL_law_1170 (by decide) (fun _ => last N1.2) (fun hk => ?_)
    have hr : isR (en E) (xs (i + 1).toNatClampNeg) := Classical.byContradiction fun z => absurd ((hB z).1.symm.trans hk) (by decide)
    refine q_aload_n (pc := 1173) F.1 dL_law_1173 rfl 3 rfl ?_
    refine q_iconst (pc := 1174) (v := 0) F.1 dL_law_1174 (by decide) ?_
    refine q_lald (pc := 1175) F.1 dL_law_1175 ?_
    refine q_iload (pc := 1176) F.1 dL_law_1176 6 rfl ?_
    refine q_i2l (pc := 1178) F.1 dL_law_1178 ?_
    refine q_lcmp (pc := 1179) F.1 dL_law_1179 ?_
    have ez : N1.2 = r2.toInt64 := by rw [(hA hr).2.1, hq2.1]
    exact q_if_eq (pc := 1180) (tgt := 1185) F.1 dL_law_1180 (by decide) (fun _ => last N1.2) (fun hc => absurd (by rw [ez]; show lg_cmp r2.toInt64 r2.toInt64 = 0; unfold lg_cmp; simp) hc)
  by_cases hr : isR (en E) (xs (i + 1).toNatClampNeg)
  · refine q_callH (pc := 1140) (n := 3) (rest := []) [.ref (eA E 0), .int (xs (i + 1).toNatClampNeg), .ref o] F.1 hTW (h_length_ret hND ho hI9 (g_length hE hI.1 hr hND hI.2.2 hI9)) (gw_t4 111 rfl rfl) (gw_t1 0 rfl rfl) (gw_t4 110 rfl rfl) (gw_t4 109 rfl rfl) (by decide +kernel) ⟨Nat.le_of_ble_eq_true rfl, Nat.le_of_ble_eq_true rfl⟩ hRc rfl rfl (Nat.le_of_ble_eq_true rfl) dL_law_1140 (fun k N hq hT => ?_)
    obtain ⟨hk, u, N1, ⟨hu, hN⟩, rfl⟩ := hq
    exact fin k (N1, u.toInt64) (fun _ => ⟨hk, by rw [hu], hN⟩) (fun z => absurd hr z) hT
  · refine q_callH (pc := 1140) (n := 3) (rest := []) [.ref (eA E 0), .int (xs (i + 1).toNatClampNeg), .ref o] F.1 hTW (h_length_thr hND ho hI9 hI.2.2 (c_X10_lengthT hst hND hI.2.2 hI9 (hI.1.no hE hr))) (gw_t4 111 rfl rfl) (gw_t1 0 rfl rfl) (gw_t4 110 rfl rfl) (gw_t4 109 rfl rfl) (by decide +kernel) ⟨Nat.le_of_ble_eq_true rfl, Nat.le_of_ble_eq_true rfl⟩ hRc rfl rfl (Nat.le_of_ble_eq_true rfl) dL_law_1140 (fun k N hq hT => ?_)
    exact fin k N (fun z => absurd z hr) (fun _ => hq) hT
theorem law_22 (F : LCx p s m args c D G lc o A E L b len xs) (hst : l.stackTraces = false) (hTW : TW A s s.heap) (hv : HVx i len) (hRc : cells + 1 ≤ room_1.cells ∧ slots + 6 ≤ room_1.slots) (hI : LIv G E L st M.1) (next : ∀ (N : MS × Int64) (st1 : ST), LIv G E L st1 N.1 → LW p l e room_1 s m args below meth c D G 7 lc o A (cells + 1) (slots + 6) Q 1485 (lvL b E L o i) [] N) : LW p l e room_1 s m args below meth c D G 7 lc o A cells slots Q 1188 (lvL b E L o i) [] M := by
  obtain ⟨hE, hND, hM6, hI9, hI10⟩ := F.2.1
  have ho := F.1.2.2.2.2.2.2.2.1
  refine q_aload_n (pc := 1188) F.1 dL_law_1188 rfl 1 rfl ?_
  refine q_aload_n (pc := 1189) F.1 dL_law_1189 rfl 0 rfl ?_
  refine q_iload (pc := 1190) F.1 dL_law_1190 4 rfl ?_
  refine q_iconst (pc := 1192) (v := 1) F.1 dL_law_1192 (by decide) ?_
  refine q_iadd (pc := 1193) F.1 dL_law_1193 ?_
  refine q_sld (pc := 1194) F.1 F.2.2.1 F.2.2.2.1 F.2.2.2.2 hv.1 dL_law_1194 ?_
  refine q_aload_n (pc := 1195) F.1 dL_law_1195 rfl 0 rfl ?_
  refine q_iload (pc := 1196) F.1 dL_law_1196 4 rfl ?_
  refine q_iconst (pc := 1198) (v := 2) F.1 dL_law_1198 (by decide) ?_
  refine q_iadd (pc := 1199) F.1 dL_law_1199 ?_
  refine q_sld (pc := 1200) F.1 F.2.2.1 F.2.2.2.1 F.2.2.2.2 hv.2.1 dL_law_1200 ?_
  refine q_aload_n (pc := 1201) F.1 dL_law_1201 rfl 3 rfl ?_
  have fin : ∀ (k : Int32) (N1 : MS × Int64), (isR (en E) (xs (i + 1).toNatClampNeg) → k = 0 ∧ N1.2 = ((oLimb (en E) st (xs (i + 1).toNatClampNeg) (xs (i + 2).toNatClampNeg)).2).toInt64 ∧ MI G M.1 N1.1 E (oLimb (en E) st (xs (i + 1).toNatClampNeg) (xs (i + 2).toNatClampNeg)).1) → (¬ isR (en E) (xs (i + 1).toNatClampNeg) → k = 1 ∧ N1 = M) → TYR G N1.1.2.2.1 → LW p l e room_1 s m args below meth c D G 7 lc o A (cells + 1) (slots + 6) Q 1205 (lvL b E L o i) [.int k] N1 := by
    intro k N1 hA hB hT1
    have hMI : MI G M.1 N1.1 E (oLimb (en E) st (xs (i + 1).toNatClampNeg) (xs (i + 2).toNatClampNeg)).1 := by
      by_cases hr : isR (en E) (xs (i + 1).toNatClampNeg)
      · exact (hA hr).2.2
      · rw [(hB hr).2]
        have e : (oLimb (en E) st (xs (i + 1).toNatClampNeg) (xs (i + 2).toNatClampNeg)).1 = st := rfl
        rw [e]
        exact hI.1
    have hK1 : KJ G N1.1 L (en E) (ew E) st := hI.2.1.keep (MI.kq hM6 hMI)
    refine q_istore (pc := 1205) F.1 dL_law_1205 (by decide) [1, 2, 3, 4, 5, 0] rfl ?_
    refine q_aload_n (pc := 1207) F.1 dL_law_1207 rfl 2 rfl ?_
    refine q_aload_n (pc := 1208) F.1 dL_law_1208 rfl 0 rfl ?_
    refine q_iload (pc := 1209) F.1 dL_law_1209 4 rfl ?_
    refine q_iconst (pc := 1211) (v := 1) F.1 dL_law_1211 (by decide) ?_
    refine q_iadd (pc := 1212) F.1 dL_law_1212 ?_
    refine q_sld (pc := 1213) F.1 F.2.2.1 F.2.2.2.1 F.2.2.2.2 hv.1 dL_law_1213 ?_
    refine q_aload_n (pc := 1214) F.1 dL_law_1214 rfl 0 rfl ?_
    refine q_iload (pc := 1215) F.1 dL_law_1215 4 rfl ?_
    refine q_iconst (pc := 1217) (v := 2) F.1 dL_law_1217 (by decide) ?_
    refine q_iadd (pc := 1218) F.1 dL_law_1218 ?_
    refine q_sld (pc := 1219) F.1 F.2.2.1 F.2.2.2.1 F.2.2.2.2 hv.2.1 dL_law_1219 ?_
    refine q_callVi (pc := 1220) (rest := []) (Qp := RX G N1.1 L E (xs (i + 1).toNatClampNeg) (oLimb (en E) st (xs (i + 1).toNatClampNeg) (xs (i + 2).toNatClampNeg))) [.int (xs (i + 1).toNatClampNeg), .int (xs (i + 2).toNatClampNeg)] F.1 (c_X11_limbAt hND hT1 hI10 (k_limb hK1 (fun N g j t => ⟨rfl, g, j, t⟩))) cf_X11_limbAt cv_X11_limbAt (gw_t5 176 rfl rfl) hI10 ⟨by decide, rfl, rfl⟩ ⟨rfl, rfl⟩ ⟨Nat.le_of_ble_eq_true rfl, Nat.le_of_ble_eq_true rfl⟩ hRc rfl rfl (Nat.le_of_ble_eq_true rfl) dL_law_1220 (fun r2 N2 hq2 hT2 => ?_)
    refine q_istore (pc := 1223) F.1 dL_law_1223 (by decide) [1, 2, 3, 4, 5, 6, 0] rfl ?_
    refine q_aload_n (pc := 1225) F.1 dL_law_1225 rfl 2 rfl ?_
    refine q_callVi (pc := 1226) (rest := []) (Qp := fun v N => v = mI N2 (kO L.1) 5 ∧ N = N2) [] F.1 (c_X11_thrown hND hT2 hI10 (by unfold w_X11_thrown; exact ⟨rfl, rfl⟩)) cf_X11_thrown cv_X11_thrown (gw_t4 195 rfl rfl) hI10 ⟨by decide, rfl, rfl⟩ ⟨rfl, rfl⟩ ⟨Nat.le_of_ble_eq_true rfl, Nat.le_of_ble_eq_true rfl⟩ hRc rfl rfl (Nat.le_of_ble_eq_true rfl) dL_law_1226 (fun v N3 hq3 hT3 => ?_)
    obtain ⟨e3, rfl⟩ := hq3
    refine q_iload (pc := 1229) F.1 dL_law_1229 5 rfl ?_
    have ek : v = k := by
      rw [e3, hq2.2.2.2]
      by_cases hr : isR (en E) (xs (i + 1).toNatClampNeg)
      · rw [if_pos hr, (hA hr).1]
      · rw [if_neg hr, (hB hr).1]
    refine q_icmp_eq (pc := 1231) (tgt := 1236) F.1 dL_law_1231 (by decide) (fun _ => ?_) (fun hc => absurd ek hc)
    have last : ∀ z : Int64, LW p l e room_1 s m args below meth c D G 7 lc o A (cells + 1) (slots + 6) Q 1253 [(0, .ref b), (1, .ref (eA E 0)), (2, .ref (kO L.1)), (3, .ref o), (4, .int i), (5, .int k), (6, .int r2)] [] (N3, z) := fun z => q_goto (pc := 1253) (tgt := 1485) F.1 dL_law_1253 (by decide) (q_perm [0, 1, 2, 3, 4] rfl (next (N3, z) _ ⟨MI.kg hE hM6 hMI hq2.2.1, hq2.2.2.1, hT3⟩))
    refine q_iload (pc := 1236) F.1 dL_law_1236 5 rfl ?_
    refine q_if_ne (pc := 1238) (tgt := 1253) F.1 dL_law_1238 (by decide) (fun _ => last N1.2) (fun hk => ?_)
    have hr : isR (en E) (xs (i + 1).toNatClampNeg) := Classical.byContradiction fun z => absurd ((hB z).1.symm.trans hk) (by decide)
    refine q_aload_n (pc := 1241) F.1 dL_law_1241 rfl 3 rfl ?_
    refine q_iconst (pc := 1242) (v := 0) F.1 dL_law_1242 (by decide) ?_
    refine q_lald (pc := 1243) F.1 dL_law_1243 ?_
    refine q_iload (pc := 1244) F.1 dL_law_1244 6 rfl ?_
    refine q_i2l (pc := 1246) F.1 dL_law_1246 ?_
    refine q_lcmp (pc := 1247) F.1 dL_law_1247 ?_
    have ez : N1.2 = r2.toInt64 := by rw [(hA hr).2.1, hq2.1]
    exact q_if_eq (pc := 1248) (tgt := 1253) F.1 dL_law_1248 (by decide) (fun _ => last N1.2) (fun hc => absurd (by rw [ez]; show lg_cmp r2.toInt64 r2.toInt64 = 0; unfold lg_cmp; simp) hc)
  by_cases hr : isR (en E) (xs (i + 1).toNatClampNeg)
  · refine q_callH (pc := 1202) (n := 4) (rest := []) [.ref (eA E 0), .int (xs (i + 1).toNatClampNeg), .int (xs (i + 2).toNatClampNeg), .ref o] F.1 hTW (h_limbAt_ret hND ho hI9 (g_limbAt hE hI.1 hr hND hI.2.2 hI9)) (gw_t4 118 rfl rfl) (gw_t1 0 rfl rfl) (gw_t4 117 rfl rfl) (gw_t4 116 rfl rfl) (by decide +kernel) ⟨Nat.le_of_ble_eq_true rfl, Nat.le_of_ble_eq_true rfl⟩ hRc rfl rfl (Nat.le_of_ble_eq_true rfl) dL_law_1202 (fun k N hq hT => ?_)
    obtain ⟨hk, u, N1, ⟨hu, hN⟩, rfl⟩ := hq
    exact fin k (N1, u.toInt64) (fun _ => ⟨hk, by rw [hu], hN⟩) (fun z => absurd hr z) hT
  · refine q_callH (pc := 1202) (n := 4) (rest := []) [.ref (eA E 0), .int (xs (i + 1).toNatClampNeg), .int (xs (i + 2).toNatClampNeg), .ref o] F.1 hTW (h_limbAt_thr hND ho hI9 hI.2.2 (c_X10_limbAtT hst hND hI.2.2 hI9 (hI.1.no hE hr))) (gw_t4 118 rfl rfl) (gw_t1 0 rfl rfl) (gw_t4 117 rfl rfl) (gw_t4 116 rfl rfl) (by decide +kernel) ⟨Nat.le_of_ble_eq_true rfl, Nat.le_of_ble_eq_true rfl⟩ hRc rfl rfl (Nat.le_of_ble_eq_true rfl) dL_law_1202 (fun k N hq hT => ?_)
    exact fin k N (fun z => absurd z hr) (fun _ => hq) hT
theorem law_23 (F : LCx p s m args c D G lc o A E L b len xs) (hv : HVx i len) (hRc : cells ≤ room_1.cells ∧ slots ≤ room_1.slots) (hI : LIv G E L st M.1) (next : ∀ (N : MS × Int64) (st1 : ST), LIv G E L st1 N.1 → LW p l e room_1 s m args below meth c D G 7 lc o A cells slots Q 1485 (lvL b E L o i) [] N) : LW p l e room_1 s m args below meth c D G 7 lc o A cells slots Q 1256 (lvL b E L o i) [] M := by
  obtain ⟨hE, hND, hM6, hI9, hI10⟩ := F.2.1
  refine q_aload_n (pc := 1256) F.1 dL_law_1256 rfl 1 rfl ?_
  refine q_aload_n (pc := 1257) F.1 dL_law_1257 rfl 0 rfl ?_
  refine q_iload (pc := 1258) F.1 dL_law_1258 4 rfl ?_
  refine q_iconst (pc := 1260) (v := 1) F.1 dL_law_1260 (by decide) ?_
  refine q_iadd (pc := 1261) F.1 dL_law_1261 ?_
  refine q_sld (pc := 1262) F.1 F.2.2.1 F.2.2.2.1 F.2.2.2.2 hv.1 dL_law_1262 ?_
  refine q_aload_n (pc := 1263) F.1 dL_law_1263 rfl 0 rfl ?_
  refine q_iload (pc := 1264) F.1 dL_law_1264 4 rfl ?_
  refine q_iconst (pc := 1266) (v := 2) F.1 dL_law_1266 (by decide) ?_
  refine q_iadd (pc := 1267) F.1 dL_law_1267 ?_
  refine q_sld (pc := 1268) F.1 F.2.2.1 F.2.2.2.1 F.2.2.2.2 hv.2.1 dL_law_1268 ?_
  refine q_aload_n (pc := 1269) F.1 dL_law_1269 rfl 0 rfl ?_
  refine q_iload (pc := 1270) F.1 dL_law_1270 4 rfl ?_
  refine q_iconst (pc := 1272) (v := 3) F.1 dL_law_1272 (by decide) ?_
  refine q_iadd (pc := 1273) F.1 dL_law_1273 ?_
  refine q_sld (pc := 1274) F.1 F.2.2.1 F.2.2.2.1 F.2.2.2.2 hv.2.2.1 dL_law_1274 ?_
  refine q_aload_n (pc := 1275) F.1 dL_law_1275 rfl 0 rfl ?_
  refine q_iload (pc := 1276) F.1 dL_law_1276 4 rfl ?_
  refine q_iconst (pc := 1278) (v := 4) F.1 dL_law_1278 (by decide) ?_
  refine q_iadd (pc := 1279) F.1 dL_law_1279 ?_
  refine q_sld (pc := 1280) F.1 F.2.2.1 F.2.2.2.1 F.2.2.2.2 hv.2.2.2.1 dL_law_1280 ?_
  refine q_aload_n (pc := 1281) F.1 dL_law_1281 rfl 0 rfl ?_
  refine q_iload (pc := 1282) F.1 dL_law_1282 4 rfl ?_
  refine q_iconst (pc := 1284) (v := 5) F.1 dL_law_1284 (by decide) ?_
  refine q_iadd (pc := 1285) F.1 dL_law_1285 ?_
  refine q_sld (pc := 1286) F.1 F.2.2.1 F.2.2.2.1 F.2.2.2.2 hv.2.2.2.2 dL_law_1286 ?_
  refine q_callVi (pc := 1287) (rest := []) (Qp := RE G M.1 E (oFeed st (xs (i + 1).toNatClampNeg) (xs (i + 2).toNatClampNeg) (xs (i + 3).toNatClampNeg) (xs (i + 4).toNatClampNeg) (xs (i + 5).toNatClampNeg))) [.int (xs (i + 1).toNatClampNeg), .int (xs (i + 2).toNatClampNeg), .int (xs (i + 3).toNatClampNeg), .int (xs (i + 4).toNatClampNeg), .int (xs (i + 5).toNatClampNeg)] F.1 (c_X10_feed hND hI.2.2 hI9 (m_feed hE hI.1 (fun N h => ⟨rfl, h⟩))) cf_X10_feed cv_X10_feed (gw_t3 221 rfl rfl) hI9 ⟨by decide, rfl, rfl⟩ ⟨rfl, rfl⟩ ⟨Nat.le_of_ble_eq_true rfl, Nat.le_of_ble_eq_true rfl⟩ hRc rfl rfl (Nat.le_of_ble_eq_true rfl) dL_law_1287 (fun r1 N1 hq1 hT1 => ?_)
  have hK1 : KJ G N1 L (en E) (ew E) st := hI.2.1.keep (MI.kq hM6 hq1.2)
  refine q_aload_n (pc := 1290) F.1 dL_law_1290 rfl 2 rfl ?_
  refine q_aload_n (pc := 1291) F.1 dL_law_1291 rfl 0 rfl ?_
  refine q_iload (pc := 1292) F.1 dL_law_1292 4 rfl ?_
  refine q_iconst (pc := 1294) (v := 1) F.1 dL_law_1294 (by decide) ?_
  refine q_iadd (pc := 1295) F.1 dL_law_1295 ?_
  refine q_sld (pc := 1296) F.1 F.2.2.1 F.2.2.2.1 F.2.2.2.2 hv.1 dL_law_1296 ?_
  refine q_aload_n (pc := 1297) F.1 dL_law_1297 rfl 0 rfl ?_
  refine q_iload (pc := 1298) F.1 dL_law_1298 4 rfl ?_
  refine q_iconst (pc := 1300) (v := 2) F.1 dL_law_1300 (by decide) ?_
  refine q_iadd (pc := 1301) F.1 dL_law_1301 ?_
  refine q_sld (pc := 1302) F.1 F.2.2.1 F.2.2.2.1 F.2.2.2.2 hv.2.1 dL_law_1302 ?_
  refine q_aload_n (pc := 1303) F.1 dL_law_1303 rfl 0 rfl ?_
  refine q_iload (pc := 1304) F.1 dL_law_1304 4 rfl ?_
  refine q_iconst (pc := 1306) (v := 3) F.1 dL_law_1306 (by decide) ?_
  refine q_iadd (pc := 1307) F.1 dL_law_1307 ?_
  refine q_sld (pc := 1308) F.1 F.2.2.1 F.2.2.2.1 F.2.2.2.2 hv.2.2.1 dL_law_1308 ?_
  refine q_aload_n (pc := 1309) F.1 dL_law_1309 rfl 0 rfl ?_
  refine q_iload (pc := 1310) F.1 dL_law_1310 4 rfl ?_
  refine q_iconst (pc := 1312) (v := 4) F.1 dL_law_1312 (by decide) ?_
  refine q_iadd (pc := 1313) F.1 dL_law_1313 ?_
  refine q_sld (pc := 1314) F.1 F.2.2.1 F.2.2.2.1 F.2.2.2.2 hv.2.2.2.1 dL_law_1314 ?_
  refine q_aload_n (pc := 1315) F.1 dL_law_1315 rfl 0 rfl ?_
  refine q_iload (pc := 1316) F.1 dL_law_1316 4 rfl ?_
  refine q_iconst (pc := 1318) (v := 5) F.1 dL_law_1318 (by decide) ?_
  refine q_iadd (pc := 1319) F.1 dL_law_1319 ?_
  refine q_sld (pc := 1320) F.1 F.2.2.1 F.2.2.2.1 F.2.2.2.2 hv.2.2.2.2 dL_law_1320 ?_
  refine q_callVi (pc := 1321) (rest := [.int r1]) (Qp := RK G N1 L E (oFeed st (xs (i + 1).toNatClampNeg) (xs (i + 2).toNatClampNeg) (xs (i + 3).toNatClampNeg) (xs (i + 4).toNatClampNeg) (xs (i + 5).toNatClampNeg))) [.int (xs (i + 1).toNatClampNeg), .int (xs (i + 2).toNatClampNeg), .int (xs (i + 3).toNatClampNeg), .int (xs (i + 4).toNatClampNeg), .int (xs (i + 5).toNatClampNeg)] F.1 (c_X11_feed hND hT1 hI10 (k_feed hK1 (fun N g j _ => ⟨rfl, g, j⟩))) cf_X11_feed cv_X11_feed (gw_t5 180 rfl rfl) hI10 ⟨by decide, rfl, rfl⟩ ⟨rfl, rfl⟩ ⟨Nat.le_of_ble_eq_true rfl, Nat.le_of_ble_eq_true rfl⟩ hRc rfl rfl (Nat.le_of_ble_eq_true rfl) dL_law_1321 (fun r2 N2 hq2 hT2 => ?_)
  exact q_icmp_eq (pc := 1324) (tgt := 1485) F.1 dL_law_1324 (by decide) (fun _ => next (N2, M.2) _ ⟨MI.kg hE hM6 hq1.2 hq2.2.1, hq2.2.2, hT2⟩) (fun hc => absurd (hq1.1.trans hq2.1.symm) hc)
theorem law_24 (F : LCx p s m args c D G lc o A E L b len xs) (hv : HVx i len) (hRc : cells ≤ room_1.cells ∧ slots ≤ room_1.slots) (hI : LIv G E L st M.1) (next : ∀ (N : MS × Int64) (st1 : ST), LIv G E L st1 N.1 → LW p l e room_1 s m args below meth c D G 7 lc o A cells slots Q 1485 (lvL b E L o i) [] N) : LW p l e room_1 s m args below meth c D G 7 lc o A cells slots Q 1329 (lvL b E L o i) [] M := by
  obtain ⟨hE, hND, hM6, hI9, hI10⟩ := F.2.1
  refine q_aload_n (pc := 1329) F.1 dL_law_1329 rfl 1 rfl ?_
  refine q_aload_n (pc := 1330) F.1 dL_law_1330 rfl 0 rfl ?_
  refine q_iload (pc := 1331) F.1 dL_law_1331 4 rfl ?_
  refine q_iconst (pc := 1333) (v := 1) F.1 dL_law_1333 (by decide) ?_
  refine q_iadd (pc := 1334) F.1 dL_law_1334 ?_
  refine q_sld (pc := 1335) F.1 F.2.2.1 F.2.2.2.1 F.2.2.2.2 hv.1 dL_law_1335 ?_
  refine q_callVi (pc := 1336) (rest := []) (Qp := RE G M.1 E (oEnd st (xs (i + 1).toNatClampNeg))) [.int (xs (i + 1).toNatClampNeg)] F.1 (c_X10_end hND hI.2.2 hI9 (m_end hE hI.1 (fun N h => ⟨rfl, h⟩))) cf_X10_end cv_X10_end (gw_t3 229 rfl rfl) hI9 ⟨by decide, rfl, rfl⟩ ⟨rfl, rfl⟩ ⟨Nat.le_of_ble_eq_true rfl, Nat.le_of_ble_eq_true rfl⟩ hRc rfl rfl (Nat.le_of_ble_eq_true rfl) dL_law_1336 (fun r1 N1 hq1 hT1 => ?_)
  have hK1 : KJ G N1 L (en E) (ew E) st := hI.2.1.keep (MI.kq hM6 hq1.2)
  refine q_aload_n (pc := 1339) F.1 dL_law_1339 rfl 2 rfl ?_
  refine q_aload_n (pc := 1340) F.1 dL_law_1340 rfl 0 rfl ?_
  refine q_iload (pc := 1341) F.1 dL_law_1341 4 rfl ?_
  refine q_iconst (pc := 1343) (v := 1) F.1 dL_law_1343 (by decide) ?_
  refine q_iadd (pc := 1344) F.1 dL_law_1344 ?_
  refine q_sld (pc := 1345) F.1 F.2.2.1 F.2.2.2.1 F.2.2.2.2 hv.1 dL_law_1345 ?_
  refine q_callVi (pc := 1346) (rest := [.int r1]) (Qp := RK G N1 L E (oEnd st (xs (i + 1).toNatClampNeg))) [.int (xs (i + 1).toNatClampNeg)] F.1 (c_X11_end hND hT1 hI10 (k_end hK1 (fun N g j _ => ⟨rfl, g, j⟩))) cf_X11_end cv_X11_end (gw_t5 188 rfl rfl) hI10 ⟨by decide, rfl, rfl⟩ ⟨rfl, rfl⟩ ⟨Nat.le_of_ble_eq_true rfl, Nat.le_of_ble_eq_true rfl⟩ hRc rfl rfl (Nat.le_of_ble_eq_true rfl) dL_law_1346 (fun r2 N2 hq2 hT2 => ?_)
  exact q_icmp_eq (pc := 1349) (tgt := 1485) F.1 dL_law_1349 (by decide) (fun _ => next (N2, M.2) _ ⟨MI.kg hE hM6 hq1.2 hq2.2.1, hq2.2.2, hT2⟩) (fun hc => absurd (hq1.1.trans hq2.1.symm) hc)
theorem law_25 (F : LCx p s m args c D G lc o A E L b len xs) (hv : HVx i len) (hRc : cells ≤ room_1.cells ∧ slots ≤ room_1.slots) (hI : LIv G E L st M.1) (next : ∀ (N : MS × Int64) (st1 : ST), LIv G E L st1 N.1 → LW p l e room_1 s m args below meth c D G 7 lc o A cells slots Q 1485 (lvL b E L o i) [] N) : LW p l e room_1 s m args below meth c D G 7 lc o A cells slots Q 1354 (lvL b E L o i) [] M := by
  obtain ⟨hE, hND, hM6, hI9, hI10⟩ := F.2.1
  refine q_aload_n (pc := 1354) F.1 dL_law_1354 rfl 1 rfl ?_
  refine q_aload_n (pc := 1355) F.1 dL_law_1355 rfl 0 rfl ?_
  refine q_iload (pc := 1356) F.1 dL_law_1356 4 rfl ?_
  refine q_iconst (pc := 1358) (v := 1) F.1 dL_law_1358 (by decide) ?_
  refine q_iadd (pc := 1359) F.1 dL_law_1359 ?_
  refine q_sld (pc := 1360) F.1 F.2.2.1 F.2.2.2.1 F.2.2.2.2 hv.1 dL_law_1360 ?_
  refine q_callVi (pc := 1361) (rest := []) (Qp := RE G M.1 E (oRead (en E) (ew E) st (xs (i + 1).toNatClampNeg))) [.int (xs (i + 1).toNatClampNeg)] F.1 (c_X10_read hND hI.2.2 hI9 (m_read hE hI.1 (fun N h => ⟨rfl, h⟩))) cf_X10_read cv_X10_read (gw_t3 233 rfl rfl) hI9 ⟨by decide, rfl, rfl⟩ ⟨rfl, rfl⟩ ⟨Nat.le_of_ble_eq_true rfl, Nat.le_of_ble_eq_true rfl⟩ hRc rfl rfl (Nat.le_of_ble_eq_true rfl) dL_law_1361 (fun r1 N1 hq1 hT1 => ?_)
  have hK1 : KJ G N1 L (en E) (ew E) st := hI.2.1.keep (MI.kq hM6 hq1.2)
  refine q_aload_n (pc := 1364) F.1 dL_law_1364 rfl 2 rfl ?_
  refine q_aload_n (pc := 1365) F.1 dL_law_1365 rfl 0 rfl ?_
  refine q_iload (pc := 1366) F.1 dL_law_1366 4 rfl ?_
  refine q_iconst (pc := 1368) (v := 1) F.1 dL_law_1368 (by decide) ?_
  refine q_iadd (pc := 1369) F.1 dL_law_1369 ?_
  refine q_sld (pc := 1370) F.1 F.2.2.1 F.2.2.2.1 F.2.2.2.2 hv.1 dL_law_1370 ?_
  refine q_callVi (pc := 1371) (rest := [.int r1]) (Qp := RK G N1 L E (oRead (en E) (ew E) st (xs (i + 1).toNatClampNeg))) [.int (xs (i + 1).toNatClampNeg)] F.1 (c_X11_read hND hT1 hI10 (k_read hK1 (fun N g j _ => ⟨rfl, g, j⟩))) cf_X11_read cv_X11_read (gw_t5 192 rfl rfl) hI10 ⟨by decide, rfl, rfl⟩ ⟨rfl, rfl⟩ ⟨Nat.le_of_ble_eq_true rfl, Nat.le_of_ble_eq_true rfl⟩ hRc rfl rfl (Nat.le_of_ble_eq_true rfl) dL_law_1371 (fun r2 N2 hq2 hT2 => ?_)
  exact q_icmp_eq (pc := 1374) (tgt := 1485) F.1 dL_law_1374 (by decide) (fun _ => next (N2, M.2) _ ⟨MI.kg hE hM6 hq1.2 hq2.2.1, hq2.2.2, hT2⟩) (fun hc => absurd (hq1.1.trans hq2.1.symm) hc)
theorem law_26 (F : LCx p s m args c D G lc o A E L b len xs) (hst : l.stackTraces = false) (hTW : TW A s s.heap) (hv : HVx i len) (hRc : cells + 1 ≤ room_1.cells ∧ slots + 6 ≤ room_1.slots) (hI : LIv G E L st M.1) (next : ∀ (N : MS × Int64) (st1 : ST), LIv G E L st1 N.1 → LW p l e room_1 s m args below meth c D G 7 lc o A (cells + 1) (slots + 6) Q 1485 (lvL b E L o i) [] N) : LW p l e room_1 s m args below meth c D G 7 lc o A cells slots Q 1379 (lvL b E L o i) [] M := by
  obtain ⟨hE, hND, hM6, hI9, hI10⟩ := F.2.1
  have ho := F.1.2.2.2.2.2.2.2.1
  refine q_aload_n (pc := 1379) F.1 dL_law_1379 rfl 1 rfl ?_
  refine q_aload_n (pc := 1380) F.1 dL_law_1380 rfl 0 rfl ?_
  refine q_iload (pc := 1381) F.1 dL_law_1381 4 rfl ?_
  refine q_iconst (pc := 1383) (v := 1) F.1 dL_law_1383 (by decide) ?_
  refine q_iadd (pc := 1384) F.1 dL_law_1384 ?_
  refine q_sld (pc := 1385) F.1 F.2.2.1 F.2.2.2.1 F.2.2.2.2 hv.1 dL_law_1385 ?_
  refine q_aload_n (pc := 1386) F.1 dL_law_1386 rfl 3 rfl ?_
  have fin : ∀ (k : Int32) (N1 : MS × Int64), (isR (en E) (xs (i + 1).toNatClampNeg) → k = 0 ∧ N1.2 = ((oWri (en E) st (xs (i + 1).toNatClampNeg)).2).toInt64 ∧ MI G M.1 N1.1 E (oWri (en E) st (xs (i + 1).toNatClampNeg)).1) → (¬ isR (en E) (xs (i + 1).toNatClampNeg) → k = 1 ∧ N1 = M) → TYR G N1.1.2.2.1 → LW p l e room_1 s m args below meth c D G 7 lc o A (cells + 1) (slots + 6) Q 1390 (lvL b E L o i) [.int k] N1 := by
    intro k N1 hA hB hT1
    have hMI : MI G M.1 N1.1 E (oWri (en E) st (xs (i + 1).toNatClampNeg)).1 := by
      by_cases hr : isR (en E) (xs (i + 1).toNatClampNeg)
      · exact (hA hr).2.2
      · rw [(hB hr).2]
        have e : (oWri (en E) st (xs (i + 1).toNatClampNeg)).1 = st := by unfold oWri; rw [if_neg hr]
        rw [e]
        exact hI.1
    have hK1 : KJ G N1.1 L (en E) (ew E) st := hI.2.1.keep (MI.kq hM6 hMI)
    refine q_istore (pc := 1390) F.1 dL_law_1390 (by decide) [1, 2, 3, 4, 5, 0] rfl ?_
    refine q_aload_n (pc := 1392) F.1 dL_law_1392 rfl 2 rfl ?_
    refine q_aload_n (pc := 1393) F.1 dL_law_1393 rfl 0 rfl ?_
    refine q_iload (pc := 1394) F.1 dL_law_1394 4 rfl ?_
    refine q_iconst (pc := 1396) (v := 1) F.1 dL_law_1396 (by decide) ?_
    refine q_iadd (pc := 1397) F.1 dL_law_1397 ?_
    refine q_sld (pc := 1398) F.1 F.2.2.1 F.2.2.2.1 F.2.2.2.2 hv.1 dL_law_1398 ?_
    refine q_callVi (pc := 1399) (rest := []) (Qp := RX G N1.1 L E (xs (i + 1).toNatClampNeg) (oWri (en E) st (xs (i + 1).toNatClampNeg))) [.int (xs (i + 1).toNatClampNeg)] F.1 (c_X11_write hND hT1 hI10 (k_wri hK1 (fun N g j t => ⟨rfl, g, j, t⟩))) cf_X11_write cv_X11_write (gw_t5 196 rfl rfl) hI10 ⟨by decide, rfl, rfl⟩ ⟨rfl, rfl⟩ ⟨Nat.le_of_ble_eq_true rfl, Nat.le_of_ble_eq_true rfl⟩ hRc rfl rfl (Nat.le_of_ble_eq_true rfl) dL_law_1399 (fun r2 N2 hq2 hT2 => ?_)
    refine q_istore (pc := 1402) F.1 dL_law_1402 (by decide) [1, 2, 3, 4, 5, 6, 0] rfl ?_
    refine q_aload_n (pc := 1404) F.1 dL_law_1404 rfl 2 rfl ?_
    refine q_callVi (pc := 1405) (rest := []) (Qp := fun v N => v = mI N2 (kO L.1) 5 ∧ N = N2) [] F.1 (c_X11_thrown hND hT2 hI10 (by unfold w_X11_thrown; exact ⟨rfl, rfl⟩)) cf_X11_thrown cv_X11_thrown (gw_t4 195 rfl rfl) hI10 ⟨by decide, rfl, rfl⟩ ⟨rfl, rfl⟩ ⟨Nat.le_of_ble_eq_true rfl, Nat.le_of_ble_eq_true rfl⟩ hRc rfl rfl (Nat.le_of_ble_eq_true rfl) dL_law_1405 (fun v N3 hq3 hT3 => ?_)
    obtain ⟨e3, rfl⟩ := hq3
    refine q_iload (pc := 1408) F.1 dL_law_1408 5 rfl ?_
    have ek : v = k := by
      rw [e3, hq2.2.2.2]
      by_cases hr : isR (en E) (xs (i + 1).toNatClampNeg)
      · rw [if_pos hr, (hA hr).1]
      · rw [if_neg hr, (hB hr).1]
    refine q_icmp_eq (pc := 1410) (tgt := 1415) F.1 dL_law_1410 (by decide) (fun _ => ?_) (fun hc => absurd ek hc)
    have last : ∀ z : Int64, LW p l e room_1 s m args below meth c D G 7 lc o A (cells + 1) (slots + 6) Q 1432 [(0, .ref b), (1, .ref (eA E 0)), (2, .ref (kO L.1)), (3, .ref o), (4, .int i), (5, .int k), (6, .int r2)] [] (N3, z) := fun z => q_goto (pc := 1432) (tgt := 1485) F.1 dL_law_1432 (by decide) (q_perm [0, 1, 2, 3, 4] rfl (next (N3, z) _ ⟨MI.kg hE hM6 hMI hq2.2.1, hq2.2.2.1, hT3⟩))
    refine q_iload (pc := 1415) F.1 dL_law_1415 5 rfl ?_
    refine q_if_ne (pc := 1417) (tgt := 1432) F.1 dL_law_1417 (by decide) (fun _ => last N1.2) (fun hk => ?_)
    have hr : isR (en E) (xs (i + 1).toNatClampNeg) := Classical.byContradiction fun z => absurd ((hB z).1.symm.trans hk) (by decide)
    refine q_aload_n (pc := 1420) F.1 dL_law_1420 rfl 3 rfl ?_
    refine q_iconst (pc := 1421) (v := 0) F.1 dL_law_1421 (by decide) ?_
    refine q_lald (pc := 1422) F.1 dL_law_1422 ?_
    refine q_iload (pc := 1423) F.1 dL_law_1423 6 rfl ?_
    refine q_i2l (pc := 1425) F.1 dL_law_1425 ?_
    refine q_lcmp (pc := 1426) F.1 dL_law_1426 ?_
    have ez : N1.2 = r2.toInt64 := by rw [(hA hr).2.1, hq2.1]
    exact q_if_eq (pc := 1427) (tgt := 1432) F.1 dL_law_1427 (by decide) (fun _ => last N1.2) (fun hc => absurd (by rw [ez]; show lg_cmp r2.toInt64 r2.toInt64 = 0; unfold lg_cmp; simp) hc)
  by_cases hr : isR (en E) (xs (i + 1).toNatClampNeg)
  · refine q_callH (pc := 1387) (n := 3) (rest := []) [.ref (eA E 0), .int (xs (i + 1).toNatClampNeg), .ref o] F.1 hTW (h_write_ret hND ho hI9 (g_write hE hI.1 hr hND hI.2.2 hI9)) (gw_t4 126 rfl rfl) (gw_t1 0 rfl rfl) (gw_t4 125 rfl rfl) (gw_t4 124 rfl rfl) (by decide +kernel) ⟨Nat.le_of_ble_eq_true rfl, Nat.le_of_ble_eq_true rfl⟩ hRc rfl rfl (Nat.le_of_ble_eq_true rfl) dL_law_1387 (fun k N hq hT => ?_)
    obtain ⟨hk, u, N1, ⟨hu, hN⟩, rfl⟩ := hq
    exact fin k (N1, u.toInt64) (fun _ => ⟨hk, by rw [hu], hN⟩) (fun z => absurd hr z) hT
  · refine q_callH (pc := 1387) (n := 3) (rest := []) [.ref (eA E 0), .int (xs (i + 1).toNatClampNeg), .ref o] F.1 hTW (h_write_thr hND ho hI9 hI.2.2 (c_X10_writeT hst hND hI.2.2 hI9 (hI.1.no hE hr))) (gw_t4 126 rfl rfl) (gw_t1 0 rfl rfl) (gw_t4 125 rfl rfl) (gw_t4 124 rfl rfl) (by decide +kernel) ⟨Nat.le_of_ble_eq_true rfl, Nat.le_of_ble_eq_true rfl⟩ hRc rfl rfl (Nat.le_of_ble_eq_true rfl) dL_law_1387 (fun k N hq hT => ?_)
    exact fin k N (fun z => absurd z hr) (fun _ => hq) hT
theorem law_27 (F : LCx p s m args c D G lc o A E L b len xs) (hv : HVx i len) (hRc : cells ≤ room_1.cells ∧ slots ≤ room_1.slots) (hI : LIv G E L st M.1) (next : ∀ (N : MS × Int64) (st1 : ST), LIv G E L st1 N.1 → LW p l e room_1 s m args below meth c D G 7 lc o A cells slots Q 1485 (lvL b E L o i) [] N) : LW p l e room_1 s m args below meth c D G 7 lc o A cells slots Q 1435 (lvL b E L o i) [] M := by
  obtain ⟨hE, hND, hM6, hI9, hI10⟩ := F.2.1
  refine q_aload_n (pc := 1435) F.1 dL_law_1435 rfl 1 rfl ?_
  refine q_aload_n (pc := 1436) F.1 dL_law_1436 rfl 0 rfl ?_
  refine q_iload (pc := 1437) F.1 dL_law_1437 4 rfl ?_
  refine q_iconst (pc := 1439) (v := 1) F.1 dL_law_1439 (by decide) ?_
  refine q_iadd (pc := 1440) F.1 dL_law_1440 ?_
  refine q_sld (pc := 1441) F.1 F.2.2.1 F.2.2.2.1 F.2.2.2.2 hv.1 dL_law_1441 ?_
  refine q_callVi (pc := 1442) (rest := []) (Qp := RE G M.1 E (oOct st (xs (i + 1).toNatClampNeg))) [.int (xs (i + 1).toNatClampNeg)] F.1 (c_X10_octet hND hI.2.2 hI9 (m_oct hE hI.1 (fun N h => ⟨rfl, h⟩))) cf_X10_octet cv_X10_octet (gw_t4 21 rfl rfl) hI9 ⟨by decide, rfl, rfl⟩ ⟨rfl, rfl⟩ ⟨Nat.le_of_ble_eq_true rfl, Nat.le_of_ble_eq_true rfl⟩ hRc rfl rfl (Nat.le_of_ble_eq_true rfl) dL_law_1442 (fun r1 N1 hq1 hT1 => ?_)
  have hK1 : KJ G N1 L (en E) (ew E) st := hI.2.1.keep (MI.kq hM6 hq1.2)
  refine q_aload_n (pc := 1445) F.1 dL_law_1445 rfl 2 rfl ?_
  refine q_aload_n (pc := 1446) F.1 dL_law_1446 rfl 0 rfl ?_
  refine q_iload (pc := 1447) F.1 dL_law_1447 4 rfl ?_
  refine q_iconst (pc := 1449) (v := 1) F.1 dL_law_1449 (by decide) ?_
  refine q_iadd (pc := 1450) F.1 dL_law_1450 ?_
  refine q_sld (pc := 1451) F.1 F.2.2.1 F.2.2.2.1 F.2.2.2.2 hv.1 dL_law_1451 ?_
  refine q_callVi (pc := 1452) (rest := [.int r1]) (Qp := RK G N1 L E (oOct st (xs (i + 1).toNatClampNeg))) [.int (xs (i + 1).toNatClampNeg)] F.1 (c_X11_octet hND hT1 hI10 (k_oct hK1 (fun N g j _ => ⟨rfl, g, j⟩))) cf_X11_octet cv_X11_octet (gw_t5 200 rfl rfl) hI10 ⟨by decide, rfl, rfl⟩ ⟨rfl, rfl⟩ ⟨Nat.le_of_ble_eq_true rfl, Nat.le_of_ble_eq_true rfl⟩ hRc rfl rfl (Nat.le_of_ble_eq_true rfl) dL_law_1452 (fun r2 N2 hq2 hT2 => ?_)
  exact q_icmp_eq (pc := 1455) (tgt := 1485) F.1 dL_law_1455 (by decide) (fun _ => next (N2, M.2) _ ⟨MI.kg hE hM6 hq1.2 hq2.2.1, hq2.2.2, hT2⟩) (fun hc => absurd (hq1.1.trans hq2.1.symm) hc)
theorem law_28 (F : LCx p s m args c D G lc o A E L b len xs) (hv : HVx i len) (hRc : cells ≤ room_1.cells ∧ slots ≤ room_1.slots) (hI : LIv G E L st M.1) (next : ∀ (N : MS × Int64) (st1 : ST), LIv G E L st1 N.1 → LW p l e room_1 s m args below meth c D G 7 lc o A cells slots Q 1485 (lvL b E L o i) [] N) : LW p l e room_1 s m args below meth c D G 7 lc o A cells slots Q 1460 (lvL b E L o i) [] M := by
  obtain ⟨hE, hND, hM6, hI9, hI10⟩ := F.2.1
  refine q_aload_n (pc := 1460) F.1 dL_law_1460 rfl 1 rfl ?_
  refine q_aload_n (pc := 1461) F.1 dL_law_1461 rfl 0 rfl ?_
  refine q_iload (pc := 1462) F.1 dL_law_1462 4 rfl ?_
  refine q_iconst (pc := 1464) (v := 1) F.1 dL_law_1464 (by decide) ?_
  refine q_iadd (pc := 1465) F.1 dL_law_1465 ?_
  refine q_sld (pc := 1466) F.1 F.2.2.1 F.2.2.2.1 F.2.2.2.2 hv.1 dL_law_1466 ?_
  refine q_callVi (pc := 1467) (rest := []) (Qp := RE G M.1 E (oCnt (en E) (ew E) st (xs (i + 1).toNatClampNeg))) [.int (xs (i + 1).toNatClampNeg)] F.1 (g_count F.2.1.1 hI.1 F.2.1.2.1 hI.2.2 F.2.1.2.2.2.1) cf_X10_count cv_X10_count (gw_t4 25 rfl rfl) hI9 ⟨by decide, rfl, rfl⟩ ⟨rfl, rfl⟩ ⟨Nat.le_of_ble_eq_true rfl, Nat.le_of_ble_eq_true rfl⟩ hRc rfl rfl (Nat.le_of_ble_eq_true rfl) dL_law_1467 (fun r1 N1 hq1 hT1 => ?_)
  have hK1 : KJ G N1 L (en E) (ew E) st := hI.2.1.keep (MI.kq hM6 hq1.2)
  refine q_aload_n (pc := 1470) F.1 dL_law_1470 rfl 2 rfl ?_
  refine q_aload_n (pc := 1471) F.1 dL_law_1471 rfl 0 rfl ?_
  refine q_iload (pc := 1472) F.1 dL_law_1472 4 rfl ?_
  refine q_iconst (pc := 1474) (v := 1) F.1 dL_law_1474 (by decide) ?_
  refine q_iadd (pc := 1475) F.1 dL_law_1475 ?_
  refine q_sld (pc := 1476) F.1 F.2.2.1 F.2.2.2.1 F.2.2.2.2 hv.1 dL_law_1476 ?_
  refine q_callVi (pc := 1477) (rest := [.int r1]) (Qp := RK G N1 L E (oCnt (en E) (ew E) st (xs (i + 1).toNatClampNeg))) [.int (xs (i + 1).toNatClampNeg)] F.1 (c_X11_count hND hT1 hI10 (k_cnt hK1 (fun N g j _ => ⟨rfl, g, j⟩))) cf_X11_count cv_X11_count (gw_t5 204 rfl rfl) hI10 ⟨by decide, rfl, rfl⟩ ⟨rfl, rfl⟩ ⟨Nat.le_of_ble_eq_true rfl, Nat.le_of_ble_eq_true rfl⟩ hRc rfl rfl (Nat.le_of_ble_eq_true rfl) dL_law_1477 (fun r2 N2 hq2 hT2 => ?_)
  exact q_icmp_eq (pc := 1480) (tgt := 1485) F.1 dL_law_1480 (by decide) (fun _ => next (N2, M.2) _ ⟨MI.kg hE hM6 hq1.2 hq2.2.1, hq2.2.2, hT2⟩) (fun hc => absurd (hq1.1.trans hq2.1.symm) hc)
end LawCases
