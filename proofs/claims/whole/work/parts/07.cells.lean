theorem in_X0 : ∀ w ∈ u_ws RX0 TX0 10, w ∈ gt := u_in (fun k hk => by
  match k, hk with
  | 0, _ => exact m847
  | 1, _ => exact m848
  | 2, _ => exact m849
  | 3, _ => exact m850
  | 4, _ => exact m851
  | 5, _ => exact m852
  | 6, _ => exact m853
  | 7, _ => exact m854
  | 8, _ => exact m855
  | 9, _ => exact m856
  | k + 10, hk => exact absurd hk (by omega))
theorem in_X1 : ∀ w ∈ u_ws RX1 TX1 0, w ∈ gt := u_in (fun k hk => absurd hk (Nat.not_lt_zero _))
theorem in_X2 : ∀ w ∈ u_ws RX2 TX2 0, w ∈ gt := u_in (fun k hk => absurd hk (Nat.not_lt_zero _))
theorem in_X3 : ∀ w ∈ u_ws RX3 TX3 0, w ∈ gt := u_in (fun k hk => absurd hk (Nat.not_lt_zero _))
theorem in_X4 : ∀ w ∈ u_ws RX4 TX4 11, w ∈ gt := u_in (fun k hk => by
  match k, hk with
  | 0, _ => exact m857
  | 1, _ => exact m858
  | 2, _ => exact m859
  | 3, _ => exact m860
  | 4, _ => exact m861
  | 5, _ => exact m862
  | 6, _ => exact m863
  | 7, _ => exact m864
  | 8, _ => exact m865
  | 9, _ => exact m866
  | 10, _ => exact m867
  | k + 11, hk => exact absurd hk (by omega))
theorem in_X5 : ∀ w ∈ u_ws RX5 TX5 5, w ∈ gt := u_in (fun k hk => by
  match k, hk with
  | 0, _ => exact m868
  | 1, _ => exact m869
  | 2, _ => exact m870
  | 3, _ => exact m871
  | 4, _ => exact m872
  | k + 5, hk => exact absurd hk (by omega))
theorem in_X6 : ∀ w ∈ u_ws RX6 TX6 11, w ∈ gt := u_in (fun k hk => by
  match k, hk with
  | 0, _ => exact m873
  | 1, _ => exact m874
  | 2, _ => exact m875
  | 3, _ => exact m876
  | 4, _ => exact m877
  | 5, _ => exact m878
  | 6, _ => exact m879
  | 7, _ => exact m880
  | 8, _ => exact m881
  | 9, _ => exact m882
  | 10, _ => exact m883
  | k + 11, hk => exact absurd hk (by omega))
theorem in_X7 : ∀ w ∈ u_ws RX7 TX7 0, w ∈ gt := u_in (fun k hk => absurd hk (Nat.not_lt_zero _))
theorem in_X8 : ∀ w ∈ u_ws RX8 TX8 0, w ∈ gt := u_in (fun k hk => absurd hk (Nat.not_lt_zero _))
theorem in_X9 : ∀ w ∈ u_ws RX9 TX9 7, w ∈ gt := u_in (fun k hk => by
  match k, hk with
  | 0, _ => exact m884
  | 1, _ => exact m885
  | 2, _ => exact m886
  | 3, _ => exact m887
  | 4, _ => exact m888
  | 5, _ => exact m889
  | 6, _ => exact m890
  | k + 7, hk => exact absurd hk (by omega))
theorem in_X10 : ∀ w ∈ u_ws RX10 TX10 4, w ∈ gt := u_in (fun k hk => by
  match k, hk with
  | 0, _ => exact m891
  | 1, _ => exact m892
  | 2, _ => exact m893
  | 3, _ => exact m894
  | k + 4, hk => exact absurd hk (by omega))
theorem in_X11 : ∀ w ∈ u_ws RX11 TX11 10, w ∈ gt := u_in (fun k hk => by
  match k, hk with
  | 0, _ => exact m895
  | 1, _ => exact m896
  | 2, _ => exact m897
  | 3, _ => exact m898
  | 4, _ => exact m899
  | 5, _ => exact m900
  | 6, _ => exact m901
  | 7, _ => exact m902
  | 8, _ => exact m903
  | 9, _ => exact m904
  | k + 10, hk => exact absurd hk (by omega))
theorem in_X12 : ∀ w ∈ u_ws RX12 TX12 44, w ∈ gt := u_in (fun k hk => by
  match k, hk with
  | 0, _ => exact m905
  | 1, _ => exact m906
  | 2, _ => exact m907
  | 3, _ => exact m908
  | 4, _ => exact m909
  | 5, _ => exact m910
  | 6, _ => exact m911
  | 7, _ => exact m912
  | 8, _ => exact m913
  | 9, _ => exact m914
  | 10, _ => exact m915
  | 11, _ => exact m916
  | 12, _ => exact m917
  | 13, _ => exact m918
  | 14, _ => exact m919
  | 15, _ => exact m920
  | 16, _ => exact m921
  | 17, _ => exact m922
  | 18, _ => exact m923
  | 19, _ => exact m924
  | 20, _ => exact m925
  | 21, _ => exact m926
  | 22, _ => exact m927
  | 23, _ => exact m928
  | 24, _ => exact m929
  | 25, _ => exact m930
  | 26, _ => exact m931
  | 27, _ => exact m932
  | 28, _ => exact m933
  | 29, _ => exact m934
  | 30, _ => exact m935
  | 31, _ => exact m936
  | 32, _ => exact m937
  | 33, _ => exact m938
  | 34, _ => exact m939
  | 35, _ => exact m940
  | 36, _ => exact m941
  | 37, _ => exact m942
  | 38, _ => exact m943
  | 39, _ => exact m944
  | 40, _ => exact m945
  | 41, _ => exact m946
  | 42, _ => exact m947
  | 43, _ => exact m948
  | k + 44, hk => exact absurd hk (by omega))
theorem ia_2 : IA 2 64 := ⟨by decide, fun _ _ _ => rfl⟩
theorem ia_4 : IA 4 6 := ⟨by decide, fun _ _ _ => rfl⟩
theorem ia_5 : IA 5 6 := ⟨by decide, fun _ _ _ => rfl⟩
theorem ia_6 : IA 6 6 := ⟨by decide, fun _ _ _ => rfl⟩
theorem ia_8 : IA 8 4 := ⟨by decide, fun _ _ _ => rfl⟩
theorem ia_9 : IA 9 4 := ⟨by decide, fun _ _ _ => rfl⟩
theorem ia_10 : IA 10 4 := ⟨by decide, fun _ _ _ => rfl⟩
theorem ia_16 : IA 16 6 := ⟨by decide, fun _ _ _ => rfl⟩
theorem ia_17 : IA 17 6 := ⟨by decide, fun _ _ _ => rfl⟩
theorem ia_18 : IA 18 6 := ⟨by decide, fun _ _ _ => rfl⟩
theorem ia_21 : IA 21 4 := ⟨by decide, fun _ _ _ => rfl⟩
theorem ia_22 : IA 22 4 := ⟨by decide, fun _ _ _ => rfl⟩
theorem ia_24 : IA 24 4 := ⟨by decide, fun _ _ _ => rfl⟩
theorem ia_25 : IA 25 4 := ⟨by decide, fun _ _ _ => rfl⟩
theorem ia_26 : IA 26 4 := ⟨by decide, fun _ _ _ => rfl⟩
theorem ia_27 : IA 27 4 := ⟨by decide, fun _ _ _ => rfl⟩
theorem ia_28 : IA 28 4 := ⟨by decide, fun _ _ _ => rfl⟩
theorem ia_30 : IA 30 64 := ⟨by decide, fun _ _ _ => rfl⟩
theorem ia_31 : IA 31 6 := ⟨by decide, fun _ _ _ => rfl⟩
theorem ia_32 : IA 32 6 := ⟨by decide, fun _ _ _ => rfl⟩
theorem ia_33 : IA 33 6 := ⟨by decide, fun _ _ _ => rfl⟩
theorem ia_34 : IA 34 4 := ⟨by decide, fun _ _ _ => rfl⟩
theorem ia_35 : IA 35 4 := ⟨by decide, fun _ _ _ => rfl⟩
theorem ia_36 : IA 36 4 := ⟨by decide, fun _ _ _ => rfl⟩
theorem ia_37 : IA 37 2 := ⟨by decide, fun _ _ _ => rfl⟩
theorem ia_38 : IA 38 4 := ⟨by decide, fun _ _ _ => rfl⟩
theorem ia_39 : IA 39 4 := ⟨by decide, fun _ _ _ => rfl⟩
theorem ia_40 : IA 40 4 := ⟨by decide, fun _ _ _ => rfl⟩
theorem ia_41 : IA 41 4 := ⟨by decide, fun _ _ _ => rfl⟩
theorem ia_42 : IA 42 4 := ⟨by decide, fun _ _ _ => rfl⟩
theorem ia_43 : IA 43 4 := ⟨by decide, fun _ _ _ => rfl⟩
theorem ia_44 : IA 44 4 := ⟨by decide, fun _ _ _ => rfl⟩
theorem ia_45 : IA 45 4 := ⟨by decide, fun _ _ _ => rfl⟩
theorem ia_46 : IA 46 6 := ⟨by decide, fun _ _ _ => rfl⟩
theorem ia_47 : IA 47 4 := ⟨by decide, fun _ _ _ => rfl⟩
theorem ia_48 : IA 48 4 := ⟨by decide, fun _ _ _ => rfl⟩
theorem ia_49 : IA 49 4 := ⟨by decide, fun _ _ _ => rfl⟩
theorem ia_50 : IA 50 6 := ⟨by decide, fun _ _ _ => rfl⟩
theorem ia_51 : IA 51 6 := ⟨by decide, fun _ _ _ => rfl⟩
theorem ia_52 : IA 52 12 := ⟨by decide, fun _ _ _ => rfl⟩
theorem ia_53 : IA 53 4 := ⟨by decide, fun _ _ _ => rfl⟩
theorem ia_54 : IA 54 4 := ⟨by decide, fun _ _ _ => rfl⟩
theorem ia_55 : IA 55 2 := ⟨by decide, fun _ _ _ => rfl⟩
theorem ia_56 : IA 56 4 := ⟨by decide, fun _ _ _ => rfl⟩
theorem ia_57 : IA 57 4 := ⟨by decide, fun _ _ _ => rfl⟩
theorem ia_58 : IA 58 12 := ⟨by decide, fun _ _ _ => rfl⟩
theorem af_ia1 {o : Nat} (h : Aff o) : IA (o + 1) 4 := aff_c (P := fun o => IA (o + 1) 4) ⟨by decide, fun _ _ _ => rfl⟩ ⟨by decide, fun _ _ _ => rfl⟩ ⟨by decide, fun _ _ _ => rfl⟩ ⟨by decide, fun _ _ _ => rfl⟩ ⟨by decide, fun _ _ _ => rfl⟩ ⟨by decide, fun _ _ _ => rfl⟩ ⟨by decide, fun _ _ _ => rfl⟩ ⟨by decide, fun _ _ _ => rfl⟩ h
theorem af_ia2 {o : Nat} (h : Aff o) : IA (o + 2) 4 := aff_c (P := fun o => IA (o + 2) 4) ⟨by decide, fun _ _ _ => rfl⟩ ⟨by decide, fun _ _ _ => rfl⟩ ⟨by decide, fun _ _ _ => rfl⟩ ⟨by decide, fun _ _ _ => rfl⟩ ⟨by decide, fun _ _ _ => rfl⟩ ⟨by decide, fun _ _ _ => rfl⟩ ⟨by decide, fun _ _ _ => rfl⟩ ⟨by decide, fun _ _ _ => rfl⟩ h
theorem af_ia3 {o : Nat} (h : Aff o) : IA (o + 3) 2 := aff_c (P := fun o => IA (o + 3) 2) ⟨by decide, fun _ _ _ => rfl⟩ ⟨by decide, fun _ _ _ => rfl⟩ ⟨by decide, fun _ _ _ => rfl⟩ ⟨by decide, fun _ _ _ => rfl⟩ ⟨by decide, fun _ _ _ => rfl⟩ ⟨by decide, fun _ _ _ => rfl⟩ ⟨by decide, fun _ _ _ => rfl⟩ ⟨by decide, fun _ _ _ => rfl⟩ h
theorem af_ia4 {o : Nat} (h : Aff o) : IA (o + 4) 4 := aff_c (P := fun o => IA (o + 4) 4) ⟨by decide, fun _ _ _ => rfl⟩ ⟨by decide, fun _ _ _ => rfl⟩ ⟨by decide, fun _ _ _ => rfl⟩ ⟨by decide, fun _ _ _ => rfl⟩ ⟨by decide, fun _ _ _ => rfl⟩ ⟨by decide, fun _ _ _ => rfl⟩ ⟨by decide, fun _ _ _ => rfl⟩ ⟨by decide, fun _ _ _ => rfl⟩ h
theorem af_za5 {o : Nat} (h : Aff o) : ZA (o + 5) 4 := aff_c (P := fun o => ZA (o + 5) 4) ⟨by decide, fun _ _ _ => rfl⟩ ⟨by decide, fun _ _ _ => rfl⟩ ⟨by decide, fun _ _ _ => rfl⟩ ⟨by decide, fun _ _ _ => rfl⟩ ⟨by decide, fun _ _ _ => rfl⟩ ⟨by decide, fun _ _ _ => rfl⟩ ⟨by decide, fun _ _ _ => rfl⟩ ⟨by decide, fun _ _ _ => rfl⟩ h
theorem af_ia6 {o : Nat} (h : Aff o) : IA (o + 6) 6 := aff_c (P := fun o => IA (o + 6) 6) ⟨by decide, fun _ _ _ => rfl⟩ ⟨by decide, fun _ _ _ => rfl⟩ ⟨by decide, fun _ _ _ => rfl⟩ ⟨by decide, fun _ _ _ => rfl⟩ ⟨by decide, fun _ _ _ => rfl⟩ ⟨by decide, fun _ _ _ => rfl⟩ ⟨by decide, fun _ _ _ => rfl⟩ ⟨by decide, fun _ _ _ => rfl⟩ h
theorem af_za7 {o : Nat} (h : Aff o) : ZA (o + 7) 6 := aff_c (P := fun o => ZA (o + 7) 6) ⟨by decide, fun _ _ _ => rfl⟩ ⟨by decide, fun _ _ _ => rfl⟩ ⟨by decide, fun _ _ _ => rfl⟩ ⟨by decide, fun _ _ _ => rfl⟩ ⟨by decide, fun _ _ _ => rfl⟩ ⟨by decide, fun _ _ _ => rfl⟩ ⟨by decide, fun _ _ _ => rfl⟩ ⟨by decide, fun _ _ _ => rfl⟩ h
theorem af_fi8 {o : Nat} (h : Aff o) : FI o 0 8 := aff_c (P := fun o => FI o 0 8) ⟨by decide, fun E f h => ⟨_, rfl, rfl, fun v => ⟨rfl, Nat.le_of_ble_eq_true rfl⟩⟩⟩ ⟨by decide, fun E f h => ⟨_, rfl, rfl, fun v => ⟨rfl, Nat.le_of_ble_eq_true rfl⟩⟩⟩ ⟨by decide, fun E f h => ⟨_, rfl, rfl, fun v => ⟨rfl, Nat.le_of_ble_eq_true rfl⟩⟩⟩ ⟨by decide, fun E f h => ⟨_, rfl, rfl, fun v => ⟨rfl, Nat.le_of_ble_eq_true rfl⟩⟩⟩ ⟨by decide, fun E f h => ⟨_, rfl, rfl, fun v => ⟨rfl, Nat.le_of_ble_eq_true rfl⟩⟩⟩ ⟨by decide, fun E f h => ⟨_, rfl, rfl, fun v => ⟨rfl, Nat.le_of_ble_eq_true rfl⟩⟩⟩ ⟨by decide, fun E f h => ⟨_, rfl, rfl, fun v => ⟨rfl, Nat.le_of_ble_eq_true rfl⟩⟩⟩ ⟨by decide, fun E f h => ⟨_, rfl, rfl, fun v => ⟨rfl, Nat.le_of_ble_eq_true rfl⟩⟩⟩ h
theorem af_fi9 {o : Nat} (h : Aff o) : FI o 0 9 := aff_c (P := fun o => FI o 0 9) ⟨by decide, fun E f h => ⟨_, rfl, rfl, fun v => ⟨rfl, Nat.le_of_ble_eq_true rfl⟩⟩⟩ ⟨by decide, fun E f h => ⟨_, rfl, rfl, fun v => ⟨rfl, Nat.le_of_ble_eq_true rfl⟩⟩⟩ ⟨by decide, fun E f h => ⟨_, rfl, rfl, fun v => ⟨rfl, Nat.le_of_ble_eq_true rfl⟩⟩⟩ ⟨by decide, fun E f h => ⟨_, rfl, rfl, fun v => ⟨rfl, Nat.le_of_ble_eq_true rfl⟩⟩⟩ ⟨by decide, fun E f h => ⟨_, rfl, rfl, fun v => ⟨rfl, Nat.le_of_ble_eq_true rfl⟩⟩⟩ ⟨by decide, fun E f h => ⟨_, rfl, rfl, fun v => ⟨rfl, Nat.le_of_ble_eq_true rfl⟩⟩⟩ ⟨by decide, fun E f h => ⟨_, rfl, rfl, fun v => ⟨rfl, Nat.le_of_ble_eq_true rfl⟩⟩⟩ ⟨by decide, fun E f h => ⟨_, rfl, rfl, fun v => ⟨rfl, Nat.le_of_ble_eq_true rfl⟩⟩⟩ h
theorem af_fr0 {o : Nat} (h : Aff o) : FR o 0 0 (3) := aff_c (P := fun o => FR o 0 0 (3)) ⟨by decide, fun E f h => ⟨_, rfl, rfl⟩⟩ ⟨by decide, fun E f h => ⟨_, rfl, rfl⟩⟩ ⟨by decide, fun E f h => ⟨_, rfl, rfl⟩⟩ ⟨by decide, fun E f h => ⟨_, rfl, rfl⟩⟩ ⟨by decide, fun E f h => ⟨_, rfl, rfl⟩⟩ ⟨by decide, fun E f h => ⟨_, rfl, rfl⟩⟩ ⟨by decide, fun E f h => ⟨_, rfl, rfl⟩⟩ ⟨by decide, fun E f h => ⟨_, rfl, rfl⟩⟩ h
theorem af_fr1 {o : Nat} (h : Aff o) : FR o 0 1 (o + 1) := aff_c (P := fun o => FR o 0 1 (o + 1)) ⟨by decide, fun E f h => ⟨_, rfl, rfl⟩⟩ ⟨by decide, fun E f h => ⟨_, rfl, rfl⟩⟩ ⟨by decide, fun E f h => ⟨_, rfl, rfl⟩⟩ ⟨by decide, fun E f h => ⟨_, rfl, rfl⟩⟩ ⟨by decide, fun E f h => ⟨_, rfl, rfl⟩⟩ ⟨by decide, fun E f h => ⟨_, rfl, rfl⟩⟩ ⟨by decide, fun E f h => ⟨_, rfl, rfl⟩⟩ ⟨by decide, fun E f h => ⟨_, rfl, rfl⟩⟩ h
theorem af_fr2 {o : Nat} (h : Aff o) : FR o 0 2 (o + 2) := aff_c (P := fun o => FR o 0 2 (o + 2)) ⟨by decide, fun E f h => ⟨_, rfl, rfl⟩⟩ ⟨by decide, fun E f h => ⟨_, rfl, rfl⟩⟩ ⟨by decide, fun E f h => ⟨_, rfl, rfl⟩⟩ ⟨by decide, fun E f h => ⟨_, rfl, rfl⟩⟩ ⟨by decide, fun E f h => ⟨_, rfl, rfl⟩⟩ ⟨by decide, fun E f h => ⟨_, rfl, rfl⟩⟩ ⟨by decide, fun E f h => ⟨_, rfl, rfl⟩⟩ ⟨by decide, fun E f h => ⟨_, rfl, rfl⟩⟩ h
theorem af_fr3 {o : Nat} (h : Aff o) : FR o 0 3 (o + 3) := aff_c (P := fun o => FR o 0 3 (o + 3)) ⟨by decide, fun E f h => ⟨_, rfl, rfl⟩⟩ ⟨by decide, fun E f h => ⟨_, rfl, rfl⟩⟩ ⟨by decide, fun E f h => ⟨_, rfl, rfl⟩⟩ ⟨by decide, fun E f h => ⟨_, rfl, rfl⟩⟩ ⟨by decide, fun E f h => ⟨_, rfl, rfl⟩⟩ ⟨by decide, fun E f h => ⟨_, rfl, rfl⟩⟩ ⟨by decide, fun E f h => ⟨_, rfl, rfl⟩⟩ ⟨by decide, fun E f h => ⟨_, rfl, rfl⟩⟩ h
theorem af_fr4 {o : Nat} (h : Aff o) : FR o 0 4 (o + 4) := aff_c (P := fun o => FR o 0 4 (o + 4)) ⟨by decide, fun E f h => ⟨_, rfl, rfl⟩⟩ ⟨by decide, fun E f h => ⟨_, rfl, rfl⟩⟩ ⟨by decide, fun E f h => ⟨_, rfl, rfl⟩⟩ ⟨by decide, fun E f h => ⟨_, rfl, rfl⟩⟩ ⟨by decide, fun E f h => ⟨_, rfl, rfl⟩⟩ ⟨by decide, fun E f h => ⟨_, rfl, rfl⟩⟩ ⟨by decide, fun E f h => ⟨_, rfl, rfl⟩⟩ ⟨by decide, fun E f h => ⟨_, rfl, rfl⟩⟩ h
theorem af_fr5 {o : Nat} (h : Aff o) : FR o 0 5 (o + 5) := aff_c (P := fun o => FR o 0 5 (o + 5)) ⟨by decide, fun E f h => ⟨_, rfl, rfl⟩⟩ ⟨by decide, fun E f h => ⟨_, rfl, rfl⟩⟩ ⟨by decide, fun E f h => ⟨_, rfl, rfl⟩⟩ ⟨by decide, fun E f h => ⟨_, rfl, rfl⟩⟩ ⟨by decide, fun E f h => ⟨_, rfl, rfl⟩⟩ ⟨by decide, fun E f h => ⟨_, rfl, rfl⟩⟩ ⟨by decide, fun E f h => ⟨_, rfl, rfl⟩⟩ ⟨by decide, fun E f h => ⟨_, rfl, rfl⟩⟩ h
theorem af_fr6 {o : Nat} (h : Aff o) : FR o 0 6 (o + 6) := aff_c (P := fun o => FR o 0 6 (o + 6)) ⟨by decide, fun E f h => ⟨_, rfl, rfl⟩⟩ ⟨by decide, fun E f h => ⟨_, rfl, rfl⟩⟩ ⟨by decide, fun E f h => ⟨_, rfl, rfl⟩⟩ ⟨by decide, fun E f h => ⟨_, rfl, rfl⟩⟩ ⟨by decide, fun E f h => ⟨_, rfl, rfl⟩⟩ ⟨by decide, fun E f h => ⟨_, rfl, rfl⟩⟩ ⟨by decide, fun E f h => ⟨_, rfl, rfl⟩⟩ ⟨by decide, fun E f h => ⟨_, rfl, rfl⟩⟩ h
theorem af_fr7 {o : Nat} (h : Aff o) : FR o 0 7 (o + 7) := aff_c (P := fun o => FR o 0 7 (o + 7)) ⟨by decide, fun E f h => ⟨_, rfl, rfl⟩⟩ ⟨by decide, fun E f h => ⟨_, rfl, rfl⟩⟩ ⟨by decide, fun E f h => ⟨_, rfl, rfl⟩⟩ ⟨by decide, fun E f h => ⟨_, rfl, rfl⟩⟩ ⟨by decide, fun E f h => ⟨_, rfl, rfl⟩⟩ ⟨by decide, fun E f h => ⟨_, rfl, rfl⟩⟩ ⟨by decide, fun E f h => ⟨_, rfl, rfl⟩⟩ ⟨by decide, fun E f h => ⟨_, rfl, rfl⟩⟩ h
theorem af_oc {o : Nat} (h : Aff o) : OC o RX0 := aff_c (P := fun o => OC o RX0) ⟨by decide, fun E f h => ⟨_, _, _, rfl, rfl, rfl⟩⟩ ⟨by decide, fun E f h => ⟨_, _, _, rfl, rfl, rfl⟩⟩ ⟨by decide, fun E f h => ⟨_, _, _, rfl, rfl, rfl⟩⟩ ⟨by decide, fun E f h => ⟨_, _, _, rfl, rfl, rfl⟩⟩ ⟨by decide, fun E f h => ⟨_, _, _, rfl, rfl, rfl⟩⟩ ⟨by decide, fun E f h => ⟨_, _, _, rfl, rfl, rfl⟩⟩ ⟨by decide, fun E f h => ⟨_, _, _, rfl, rfl, rfl⟩⟩ ⟨by decide, fun E f h => ⟨_, _, _, rfl, rfl, rfl⟩⟩ h
