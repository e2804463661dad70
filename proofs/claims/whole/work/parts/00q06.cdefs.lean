/-! what the constructors make -/
def KLc_3 : List (Nat × Nat) := [(0, 0), (0, 0), (0, 0)]
def RLc_0 : List (List Nat) := [[], [], []]
def Nc_0 : NN := fun _ _ => 0
theorem kl_3 : KLc_3.length = 3 := rfl
theorem rl_0 : RLc_0.length = 3 := rfl
def KLc_4 : List (Nat × Nat) := KLc_3 ++ [(16, 0)]
theorem kc_4 : KLc_3 ++ [(16, 0)] = KLc_4 := rfl
theorem kl_4 : KLc_4.length = 4 := by decide +kernel
def RLc_1 : List (List Nat) := RLc_0 ++ [[]]
theorem rc_1 : RLc_0 ++ [[]] = RLc_1 := rfl
theorem rl_1 : RLc_1.length = 4 := by decide +kernel
def KLc_5 : List (Nat × Nat) := KLc_4 ++ [(15, 0)]
theorem kc_5 : KLc_4 ++ [(15, 0)] = KLc_5 := rfl
theorem kl_5 : KLc_5.length = 5 := by decide +kernel
def RLc_2 : List (List Nat) := RLc_1 ++ [[]]
theorem rc_2 : RLc_1 ++ [[]] = RLc_2 := rfl
theorem rl_2 : RLc_2.length = 5 := by decide +kernel
def KLc_6 : List (Nat × Nat) := KLc_5 ++ [(1, 266)]
theorem kc_6 : KLc_5 ++ [(1, 266)] = KLc_6 := rfl
theorem kl_6 : KLc_6.length = 6 := by decide +kernel
def RLc_3 : List (List Nat) := RLc_2 ++ [[]]
theorem rc_3 : RLc_2 ++ [[]] = RLc_3 := rfl
theorem rl_3 : RLc_3.length = 6 := by decide +kernel
def RLc_4 : List (List Nat) := RLc_3.set 4 [5]
theorem rc_4 : RLc_3.set 4 (rowS 5 0 (RLc_3.getD 4 [])) = RLc_4 := by rw [show RLc_3.getD 4 [] = [] by decide +kernel]; rfl
theorem rl_4 : RLc_4.length = 6 := by decide +kernel
def KLc_7 : List (Nat × Nat) := KLc_6 ++ [(4, 6)]
theorem kc_7 : KLc_6 ++ [(4, 6)] = KLc_7 := rfl
theorem kl_7 : KLc_7.length = 7 := by decide +kernel
def RLc_5 : List (List Nat) := RLc_4 ++ [[]]
theorem rc_5 : RLc_4 ++ [[]] = RLc_5 := rfl
theorem rl_5 : RLc_5.length = 7 := by decide +kernel
def RLc_6 : List (List Nat) := RLc_5.set 4 [5, 6]
theorem rc_6 : RLc_5.set 4 (rowS 6 1 (RLc_5.getD 4 [])) = RLc_6 := by rw [show RLc_5.getD 4 [] = [5] by decide +kernel]; rfl
theorem rl_6 : RLc_6.length = 7 := by decide +kernel
def Nc_1 : NN := m_up Nc_0 5 1 1
theorem nc_1 : (m_up Nc_0 5 1 1 : NN) = Nc_1 := rfl
def Nc_2 : NN := m_up Nc_1 5 196 (-1)
theorem nc_2 : (m_up Nc_1 5 196 (-1) : NN) = Nc_2 := rfl
def Nc_3 : NN := m_fl Nc_2 5 119 155 (-1)
theorem nc_3 : (m_fl Nc_2 5 119 155 (-1) : NN) = Nc_3 := rfl
def Nc_4 : NN := m_fl Nc_3 5 197 213 (-1)
theorem nc_4 : (m_fl Nc_3 5 197 213 (-1) : NN) = Nc_4 := rfl
def RLc_7 : List (List Nat) := RLc_6.set 3 [4]
theorem rc_7 : RLc_6.set 3 (rowS 4 0 (RLc_6.getD 3 [])) = RLc_7 := by rw [show RLc_6.getD 3 [] = [] by decide +kernel]; rfl
theorem rl_7 : RLc_7.length = 7 := by decide +kernel
def KLc_8 : List (Nat × Nat) := KLc_7 ++ [(15, 0)]
theorem kc_8 : KLc_7 ++ [(15, 0)] = KLc_8 := rfl
theorem kl_8 : KLc_8.length = 8 := by decide +kernel
def RLc_8 : List (List Nat) := RLc_7 ++ [[]]
theorem rc_8 : RLc_7 ++ [[]] = RLc_8 := rfl
theorem rl_8 : RLc_8.length = 8 := by decide +kernel
def KLc_9 : List (Nat × Nat) := KLc_8 ++ [(1, 266)]
theorem kc_9 : KLc_8 ++ [(1, 266)] = KLc_9 := rfl
theorem kl_9 : KLc_9.length = 9 := by decide +kernel
def RLc_9 : List (List Nat) := RLc_8 ++ [[]]
theorem rc_9 : RLc_8 ++ [[]] = RLc_9 := rfl
theorem rl_9 : RLc_9.length = 9 := by decide +kernel
def RLc_10 : List (List Nat) := RLc_9.set 7 [8]
theorem rc_10 : RLc_9.set 7 (rowS 8 0 (RLc_9.getD 7 [])) = RLc_10 := by rw [show RLc_9.getD 7 [] = [] by decide +kernel]; rfl
theorem rl_10 : RLc_10.length = 9 := by decide +kernel
def KLc_10 : List (Nat × Nat) := KLc_9 ++ [(4, 6)]
theorem kc_10 : KLc_9 ++ [(4, 6)] = KLc_10 := rfl
theorem kl_10 : KLc_10.length = 10 := by decide +kernel
def RLc_11 : List (List Nat) := RLc_10 ++ [[]]
theorem rc_11 : RLc_10 ++ [[]] = RLc_11 := rfl
theorem rl_11 : RLc_11.length = 10 := by decide +kernel
def RLc_12 : List (List Nat) := RLc_11.set 7 [8, 9]
theorem rc_12 : RLc_11.set 7 (rowS 9 1 (RLc_11.getD 7 [])) = RLc_12 := by rw [show RLc_11.getD 7 [] = [8] by decide +kernel]; rfl
theorem rl_12 : RLc_12.length = 10 := by decide +kernel
def Nc_5 : NN := m_up Nc_4 8 1 1
theorem nc_5 : (m_up Nc_4 8 1 1 : NN) = Nc_5 := rfl
def Nc_6 : NN := m_up Nc_5 8 196 (-1)
theorem nc_6 : (m_up Nc_5 8 196 (-1) : NN) = Nc_6 := rfl
def Nc_7 : NN := m_fl Nc_6 8 119 155 (-1)
theorem nc_7 : (m_fl Nc_6 8 119 155 (-1) : NN) = Nc_7 := rfl
def Nc_8 : NN := m_fl Nc_7 8 197 213 (-1)
theorem nc_8 : (m_fl Nc_7 8 197 213 (-1) : NN) = Nc_8 := rfl
def RLc_13 : List (List Nat) := RLc_12.set 3 [4, 7]
theorem rc_13 : RLc_12.set 3 (rowS 7 1 (RLc_12.getD 3 [])) = RLc_13 := by rw [show RLc_12.getD 3 [] = [4] by decide +kernel]; rfl
theorem rl_13 : RLc_13.length = 10 := by decide +kernel
def KLc_11 : List (Nat × Nat) := KLc_10 ++ [(15, 0)]
theorem kc_11 : KLc_10 ++ [(15, 0)] = KLc_11 := rfl
theorem kl_11 : KLc_11.length = 11 := by decide +kernel
def RLc_14 : List (List Nat) := RLc_13 ++ [[]]
theorem rc_14 : RLc_13 ++ [[]] = RLc_14 := rfl
theorem rl_14 : RLc_14.length = 11 := by decide +kernel
def KLc_12 : List (Nat × Nat) := KLc_11 ++ [(1, 266)]
theorem kc_12 : KLc_11 ++ [(1, 266)] = KLc_12 := rfl
theorem kl_12 : KLc_12.length = 12 := by decide +kernel
def RLc_15 : List (List Nat) := RLc_14 ++ [[]]
theorem rc_15 : RLc_14 ++ [[]] = RLc_15 := rfl
theorem rl_15 : RLc_15.length = 12 := by decide +kernel
def RLc_16 : List (List Nat) := RLc_15.set 10 [11]
theorem rc_16 : RLc_15.set 10 (rowS 11 0 (RLc_15.getD 10 [])) = RLc_16 := by rw [show RLc_15.getD 10 [] = [] by decide +kernel]; rfl
theorem rl_16 : RLc_16.length = 12 := by decide +kernel
def KLc_13 : List (Nat × Nat) := KLc_12 ++ [(4, 6)]
theorem kc_13 : KLc_12 ++ [(4, 6)] = KLc_13 := rfl
theorem kl_13 : KLc_13.length = 13 := by decide +kernel
def RLc_17 : List (List Nat) := RLc_16 ++ [[]]
theorem rc_17 : RLc_16 ++ [[]] = RLc_17 := rfl
theorem rl_17 : RLc_17.length = 13 := by decide +kernel
def RLc_18 : List (List Nat) := RLc_17.set 10 [11, 12]
theorem rc_18 : RLc_17.set 10 (rowS 12 1 (RLc_17.getD 10 [])) = RLc_18 := by rw [show RLc_17.getD 10 [] = [11] by decide +kernel]; rfl
theorem rl_18 : RLc_18.length = 13 := by decide +kernel
def Nc_9 : NN := m_up Nc_8 11 1 1
theorem nc_9 : (m_up Nc_8 11 1 1 : NN) = Nc_9 := rfl
def Nc_10 : NN := m_up Nc_9 11 196 (-1)
theorem nc_10 : (m_up Nc_9 11 196 (-1) : NN) = Nc_10 := rfl
def Nc_11 : NN := m_fl Nc_10 11 119 155 (-1)
theorem nc_11 : (m_fl Nc_10 11 119 155 (-1) : NN) = Nc_11 := rfl
def Nc_12 : NN := m_fl Nc_11 11 197 213 (-1)
theorem nc_12 : (m_fl Nc_11 11 197 213 (-1) : NN) = Nc_12 := rfl
def RLc_19 : List (List Nat) := RLc_18.set 3 [4, 7, 10]
theorem rc_19 : RLc_18.set 3 (rowS 10 2 (RLc_18.getD 3 [])) = RLc_19 := by rw [show RLc_18.getD 3 [] = [4, 7] by decide +kernel]; rfl
theorem rl_19 : RLc_19.length = 13 := by decide +kernel
def KLc_14 : List (Nat × Nat) := KLc_13 ++ [(9, 0)]
theorem kc_14 : KLc_13 ++ [(9, 0)] = KLc_14 := rfl
theorem kl_14 : KLc_14.length = 14 := by decide +kernel
def RLc_20 : List (List Nat) := RLc_19 ++ [[]]
theorem rc_20 : RLc_19 ++ [[]] = RLc_20 := rfl
theorem rl_20 : RLc_20.length = 14 := by decide +kernel
def KLc_15 : List (Nat × Nat) := KLc_14 ++ [(1, 3056)]
theorem kc_15 : KLc_14 ++ [(1, 3056)] = KLc_15 := rfl
theorem kl_15 : KLc_15.length = 15 := by decide +kernel
def RLc_21 : List (List Nat) := RLc_20 ++ [[]]
theorem rc_21 : RLc_20 ++ [[]] = RLc_21 := rfl
theorem rl_21 : RLc_21.length = 15 := by decide +kernel
def RLc_22 : List (List Nat) := RLc_21.set 13 [14]
theorem rc_22 : RLc_21.set 13 (rowS 14 0 (RLc_21.getD 13 [])) = RLc_22 := by rw [show RLc_21.getD 13 [] = [] by decide +kernel]; rfl
theorem rl_22 : RLc_22.length = 15 := by decide +kernel
def KLc_16 : List (Nat × Nat) := KLc_15 ++ [(1, 16)]
theorem kc_16 : KLc_15 ++ [(1, 16)] = KLc_16 := rfl
theorem kl_16 : KLc_16.length = 16 := by decide +kernel
def RLc_23 : List (List Nat) := RLc_22 ++ [[]]
theorem rc_23 : RLc_22 ++ [[]] = RLc_23 := rfl
theorem rl_23 : RLc_23.length = 16 := by decide +kernel
def RLc_24 : List (List Nat) := RLc_23.set 13 [14, 15]
theorem rc_24 : RLc_23.set 13 (rowS 15 1 (RLc_23.getD 13 [])) = RLc_24 := by rw [show RLc_23.getD 13 [] = [14] by decide +kernel]; rfl
theorem rl_24 : RLc_24.length = 16 := by decide +kernel
def RLc_25 : List (List Nat) := RLc_24.set 3 [4, 7, 10, 13]
theorem rc_25 : RLc_24.set 3 (rowS 13 3 (RLc_24.getD 3 [])) = RLc_25 := by rw [show RLc_24.getD 3 [] = [4, 7, 10] by decide +kernel]; rfl
theorem rl_25 : RLc_25.length = 16 := by decide +kernel
def KLc_17 : List (Nat × Nat) := KLc_16 ++ [(10, 0)]
theorem kc_17 : KLc_16 ++ [(10, 0)] = KLc_17 := rfl
theorem kl_17 : KLc_17.length = 17 := by decide +kernel
def RLc_26 : List (List Nat) := RLc_25 ++ [[]]
theorem rc_26 : RLc_25 ++ [[]] = RLc_26 := rfl
theorem rl_26 : RLc_26.length = 17 := by decide +kernel
def KLc_18 : List (Nat × Nat) := KLc_17 ++ [(1, 400)]
theorem kc_18 : KLc_17 ++ [(1, 400)] = KLc_18 := rfl
theorem kl_18 : KLc_18.length = 18 := by decide +kernel
def RLc_27 : List (List Nat) := RLc_26 ++ [[]]
theorem rc_27 : RLc_26 ++ [[]] = RLc_27 := rfl
theorem rl_27 : RLc_27.length = 18 := by decide +kernel
def RLc_28 : List (List Nat) := RLc_27.set 16 [17]
theorem rc_28 : RLc_27.set 16 (rowS 17 0 (RLc_27.getD 16 [])) = RLc_28 := by rw [show RLc_27.getD 16 [] = [] by decide +kernel]; rfl
theorem rl_28 : RLc_28.length = 18 := by decide +kernel
def KLc_19 : List (Nat × Nat) := KLc_18 ++ [(1, 401)]
theorem kc_19 : KLc_18 ++ [(1, 401)] = KLc_19 := rfl
theorem kl_19 : KLc_19.length = 19 := by decide +kernel
def RLc_29 : List (List Nat) := RLc_28 ++ [[]]
theorem rc_29 : RLc_28 ++ [[]] = RLc_29 := rfl
theorem rl_29 : RLc_29.length = 19 := by decide +kernel
def RLc_30 : List (List Nat) := RLc_29.set 16 [17, 18]
theorem rc_30 : RLc_29.set 16 (rowS 18 1 (RLc_29.getD 16 [])) = RLc_30 := by rw [show RLc_29.getD 16 [] = [17] by decide +kernel]; rfl
theorem rl_30 : RLc_30.length = 19 := by decide +kernel
def KLc_20 : List (Nat × Nat) := KLc_19 ++ [(1, 401)]
theorem kc_20 : KLc_19 ++ [(1, 401)] = KLc_20 := rfl
theorem kl_20 : KLc_20.length = 20 := by decide +kernel
def RLc_31 : List (List Nat) := RLc_30 ++ [[]]
theorem rc_31 : RLc_30 ++ [[]] = RLc_31 := rfl
theorem rl_31 : RLc_31.length = 20 := by decide +kernel
def RLc_32 : List (List Nat) := RLc_31.set 16 [17, 18, 19]
theorem rc_32 : RLc_31.set 16 (rowS 19 2 (RLc_31.getD 16 [])) = RLc_32 := by rw [show RLc_31.getD 16 [] = [17, 18] by decide +kernel]; rfl
theorem rl_32 : RLc_32.length = 20 := by decide +kernel
def KLc_21 : List (Nat × Nat) := KLc_20 ++ [(1, 401)]
theorem kc_21 : KLc_20 ++ [(1, 401)] = KLc_21 := rfl
theorem kl_21 : KLc_21.length = 21 := by decide +kernel
def RLc_33 : List (List Nat) := RLc_32 ++ [[]]
theorem rc_33 : RLc_32 ++ [[]] = RLc_33 := rfl
theorem rl_33 : RLc_33.length = 21 := by decide +kernel
def RLc_34 : List (List Nat) := RLc_33.set 16 [17, 18, 19, 20]
theorem rc_34 : RLc_33.set 16 (rowS 20 3 (RLc_33.getD 16 [])) = RLc_34 := by rw [show RLc_33.getD 16 [] = [17, 18, 19] by decide +kernel]; rfl
theorem rl_34 : RLc_34.length = 21 := by decide +kernel
def KLc_22 : List (Nat × Nat) := KLc_21 ++ [(13, 0)]
theorem kc_22 : KLc_21 ++ [(13, 0)] = KLc_22 := rfl
theorem kl_22 : KLc_22.length = 22 := by decide +kernel
def RLc_35 : List (List Nat) := RLc_34 ++ [[]]
theorem rc_35 : RLc_34 ++ [[]] = RLc_35 := rfl
theorem rl_35 : RLc_35.length = 22 := by decide +kernel
def KLc_23 : List (Nat × Nat) := KLc_22 ++ [(1, 400)]
theorem kc_23 : KLc_22 ++ [(1, 400)] = KLc_23 := rfl
theorem kl_23 : KLc_23.length = 23 := by decide +kernel
def RLc_36 : List (List Nat) := RLc_35 ++ [[]]
theorem rc_36 : RLc_35 ++ [[]] = RLc_36 := rfl
theorem rl_36 : RLc_36.length = 23 := by decide +kernel
def RLc_37 : List (List Nat) := RLc_36.set 21 [22]
theorem rc_37 : RLc_36.set 21 (rowS 22 0 (RLc_36.getD 21 [])) = RLc_37 := by rw [show RLc_36.getD 21 [] = [] by decide +kernel]; rfl
theorem rl_37 : RLc_37.length = 23 := by decide +kernel
def KLc_24 : List (Nat × Nat) := KLc_23 ++ [(1, 400)]
theorem kc_24 : KLc_23 ++ [(1, 400)] = KLc_24 := rfl
theorem kl_24 : KLc_24.length = 24 := by decide +kernel
def RLc_38 : List (List Nat) := RLc_37 ++ [[]]
theorem rc_38 : RLc_37 ++ [[]] = RLc_38 := rfl
theorem rl_38 : RLc_38.length = 24 := by decide +kernel
def RLc_39 : List (List Nat) := RLc_38.set 21 [22, 23]
theorem rc_39 : RLc_38.set 21 (rowS 23 1 (RLc_38.getD 21 [])) = RLc_39 := by rw [show RLc_38.getD 21 [] = [22] by decide +kernel]; rfl
theorem rl_39 : RLc_39.length = 24 := by decide +kernel
def KLc_25 : List (Nat × Nat) := KLc_24 ++ [(1, 96)]
theorem kc_25 : KLc_24 ++ [(1, 96)] = KLc_25 := rfl
theorem kl_25 : KLc_25.length = 25 := by decide +kernel
def RLc_40 : List (List Nat) := RLc_39 ++ [[]]
theorem rc_40 : RLc_39 ++ [[]] = RLc_40 := rfl
theorem rl_40 : RLc_40.length = 25 := by decide +kernel
def RLc_41 : List (List Nat) := RLc_40.set 21 [22, 23, 24]
theorem rc_41 : RLc_40.set 21 (rowS 24 2 (RLc_40.getD 21 [])) = RLc_41 := by rw [show RLc_40.getD 21 [] = [22, 23] by decide +kernel]; rfl
theorem rl_41 : RLc_41.length = 25 := by decide +kernel
def RLc_42 : List (List Nat) := RLc_41.set 16 [17, 18, 19, 20, 21]
theorem rc_42 : RLc_41.set 16 (rowS 21 4 (RLc_41.getD 16 [])) = RLc_42 := by rw [show RLc_41.getD 16 [] = [17, 18, 19, 20] by decide +kernel]; rfl
theorem rl_42 : RLc_42.length = 25 := by decide +kernel
def Nc_13 : NN := m_up Nc_12 16 6 (-1)
theorem nc_13 : (m_up Nc_12 16 6 (-1) : NN) = Nc_13 := rfl
def Nc_14 : NN := m_up Nc_13 16 10 (-1)
theorem nc_14 : (m_up Nc_13 16 10 (-1) : NN) = Nc_14 := rfl
def RLc_43 : List (List Nat) := RLc_42.set 3 [4, 7, 10, 13, 16]
theorem rc_43 : RLc_42.set 3 (rowS 16 4 (RLc_42.getD 3 [])) = RLc_43 := by rw [show RLc_42.getD 3 [] = [4, 7, 10, 13] by decide +kernel]; rfl
theorem rl_43 : RLc_43.length = 25 := by decide +kernel
def KLc_26 : List (Nat × Nat) := KLc_25 ++ [(7, 0)]
theorem kc_26 : KLc_25 ++ [(7, 0)] = KLc_26 := rfl
theorem kl_26 : KLc_26.length = 26 := by decide +kernel
def RLc_44 : List (List Nat) := RLc_43 ++ [[]]
theorem rc_44 : RLc_43 ++ [[]] = RLc_44 := rfl
theorem rl_44 : RLc_44.length = 26 := by decide +kernel
def KLc_27 : List (Nat × Nat) := KLc_26 ++ [(1, 9)]
theorem kc_27 : KLc_26 ++ [(1, 9)] = KLc_27 := rfl
theorem kl_27 : KLc_27.length = 27 := by decide +kernel
def RLc_45 : List (List Nat) := RLc_44 ++ [[]]
theorem rc_45 : RLc_44 ++ [[]] = RLc_45 := rfl
theorem rl_45 : RLc_45.length = 27 := by decide +kernel
def RLc_46 : List (List Nat) := RLc_45.set 25 [26]
theorem rc_46 : RLc_45.set 25 (rowS 26 0 (RLc_45.getD 25 [])) = RLc_46 := by rw [show RLc_45.getD 25 [] = [] by decide +kernel]; rfl
theorem rl_46 : RLc_46.length = 27 := by decide +kernel
def KLc_28 : List (Nat × Nat) := KLc_27 ++ [(1, 32)]
theorem kc_28 : KLc_27 ++ [(1, 32)] = KLc_28 := rfl
theorem kl_28 : KLc_28.length = 28 := by decide +kernel
def RLc_47 : List (List Nat) := RLc_46 ++ [[]]
theorem rc_47 : RLc_46 ++ [[]] = RLc_47 := rfl
theorem rl_47 : RLc_47.length = 28 := by decide +kernel
def RLc_48 : List (List Nat) := RLc_47.set 25 [26, 27]
theorem rc_48 : RLc_47.set 25 (rowS 27 1 (RLc_47.getD 25 [])) = RLc_48 := by rw [show RLc_47.getD 25 [] = [26] by decide +kernel]; rfl
theorem rl_48 : RLc_48.length = 28 := by decide +kernel
def KLc_29 : List (Nat × Nat) := KLc_28 ++ [(1, 5)]
theorem kc_29 : KLc_28 ++ [(1, 5)] = KLc_29 := rfl
theorem kl_29 : KLc_29.length = 29 := by decide +kernel
def RLc_49 : List (List Nat) := RLc_48 ++ [[]]
theorem rc_49 : RLc_48 ++ [[]] = RLc_49 := rfl
theorem rl_49 : RLc_49.length = 29 := by decide +kernel
def RLc_50 : List (List Nat) := RLc_49.set 25 [26, 27, 28]
theorem rc_50 : RLc_49.set 25 (rowS 28 2 (RLc_49.getD 25 [])) = RLc_50 := by rw [show RLc_49.getD 25 [] = [26, 27] by decide +kernel]; rfl
theorem rl_50 : RLc_50.length = 29 := by decide +kernel
def RLc_51 : List (List Nat) := RLc_50.set 3 [4, 7, 10, 13, 16, 25]
theorem rc_51 : RLc_50.set 3 (rowS 25 5 (RLc_50.getD 3 [])) = RLc_51 := by rw [show RLc_50.getD 3 [] = [4, 7, 10, 13, 16] by decide +kernel]; rfl
theorem rl_51 : RLc_51.length = 29 := by decide +kernel
def KLc_30 : List (Nat × Nat) := KLc_29 ++ [(5, 0)]
theorem kc_30 : KLc_29 ++ [(5, 0)] = KLc_30 := rfl
theorem kl_30 : KLc_30.length = 30 := by decide +kernel
def RLc_52 : List (List Nat) := RLc_51 ++ [[]]
theorem rc_52 : RLc_51 ++ [[]] = RLc_52 := rfl
theorem rl_52 : RLc_52.length = 30 := by decide +kernel
def KLc_31 : List (Nat × Nat) := KLc_30 ++ [(15, 0)]
theorem kc_31 : KLc_30 ++ [(15, 0)] = KLc_31 := rfl
theorem kl_31 : KLc_31.length = 31 := by decide +kernel
def RLc_53 : List (List Nat) := RLc_52 ++ [[]]
theorem rc_53 : RLc_52 ++ [[]] = RLc_53 := rfl
theorem rl_53 : RLc_53.length = 31 := by decide +kernel
def KLc_32 : List (Nat × Nat) := KLc_31 ++ [(1, 266)]
theorem kc_32 : KLc_31 ++ [(1, 266)] = KLc_32 := rfl
theorem kl_32 : KLc_32.length = 32 := by decide +kernel
def RLc_54 : List (List Nat) := RLc_53 ++ [[]]
theorem rc_54 : RLc_53 ++ [[]] = RLc_54 := rfl
theorem rl_54 : RLc_54.length = 32 := by decide +kernel
def RLc_55 : List (List Nat) := RLc_54.set 30 [31]
theorem rc_55 : RLc_54.set 30 (rowS 31 0 (RLc_54.getD 30 [])) = RLc_55 := by rw [show RLc_54.getD 30 [] = [] by decide +kernel]; rfl
theorem rl_55 : RLc_55.length = 32 := by decide +kernel
def KLc_33 : List (Nat × Nat) := KLc_32 ++ [(4, 6)]
theorem kc_33 : KLc_32 ++ [(4, 6)] = KLc_33 := rfl
theorem kl_33 : KLc_33.length = 33 := by decide +kernel
def RLc_56 : List (List Nat) := RLc_55 ++ [[]]
theorem rc_56 : RLc_55 ++ [[]] = RLc_56 := rfl
theorem rl_56 : RLc_56.length = 33 := by decide +kernel
def RLc_57 : List (List Nat) := RLc_56.set 30 [31, 32]
theorem rc_57 : RLc_56.set 30 (rowS 32 1 (RLc_56.getD 30 [])) = RLc_57 := by rw [show RLc_56.getD 30 [] = [31] by decide +kernel]; rfl
theorem rl_57 : RLc_57.length = 33 := by decide +kernel
def Nc_15 : NN := m_up Nc_14 31 1 1
theorem nc_15 : (m_up Nc_14 31 1 1 : NN) = Nc_15 := rfl
def Nc_16 : NN := m_up Nc_15 31 196 (-1)
theorem nc_16 : (m_up Nc_15 31 196 (-1) : NN) = Nc_16 := rfl
def Nc_17 : NN := m_fl Nc_16 31 119 155 (-1)
theorem nc_17 : (m_fl Nc_16 31 119 155 (-1) : NN) = Nc_17 := rfl
def Nc_18 : NN := m_fl Nc_17 31 197 213 (-1)
theorem nc_18 : (m_fl Nc_17 31 197 213 (-1) : NN) = Nc_18 := rfl
def RLc_58 : List (List Nat) := RLc_57.set 29 [0, 30]
theorem rc_58 : RLc_57.set 29 (rowS 30 1 (RLc_57.getD 29 [])) = RLc_58 := by rw [show RLc_57.getD 29 [] = [] by decide +kernel]; rfl
theorem rl_58 : RLc_58.length = 33 := by decide +kernel
def RLc_59 : List (List Nat) := RLc_58.set 29 [25, 30]
theorem rc_59 : RLc_58.set 29 (rowS 25 0 (RLc_58.getD 29 [])) = RLc_59 := by rw [show RLc_58.getD 29 [] = [0, 30] by decide +kernel]; rfl
theorem rl_59 : RLc_59.length = 33 := by decide +kernel
def RLc_60 : List (List Nat) := RLc_59.set 3 [4, 7, 10, 13, 16, 25, 29]
theorem rc_60 : RLc_59.set 3 (rowS 29 6 (RLc_59.getD 3 [])) = RLc_60 := by rw [show RLc_59.getD 3 [] = [4, 7, 10, 13, 16, 25] by decide +kernel]; rfl
theorem rl_60 : RLc_60.length = 33 := by decide +kernel
def KLc_34 : List (Nat × Nat) := KLc_33 ++ [(8, 0)]
theorem kc_34 : KLc_33 ++ [(8, 0)] = KLc_34 := rfl
theorem kl_34 : KLc_34.length = 34 := by decide +kernel
def RLc_61 : List (List Nat) := RLc_60 ++ [[]]
theorem rc_61 : RLc_60 ++ [[]] = RLc_61 := rfl
theorem rl_61 : RLc_61.length = 34 := by decide +kernel
def KLc_35 : List (Nat × Nat) := KLc_34 ++ [(15, 0)]
theorem kc_35 : KLc_34 ++ [(15, 0)] = KLc_35 := rfl
theorem kl_35 : KLc_35.length = 35 := by decide +kernel
def RLc_62 : List (List Nat) := RLc_61 ++ [[]]
theorem rc_62 : RLc_61 ++ [[]] = RLc_62 := rfl
theorem rl_62 : RLc_62.length = 35 := by decide +kernel
def KLc_36 : List (Nat × Nat) := KLc_35 ++ [(1, 266)]
theorem kc_36 : KLc_35 ++ [(1, 266)] = KLc_36 := rfl
theorem kl_36 : KLc_36.length = 36 := by decide +kernel
def RLc_63 : List (List Nat) := RLc_62 ++ [[]]
theorem rc_63 : RLc_62 ++ [[]] = RLc_63 := rfl
theorem rl_63 : RLc_63.length = 36 := by decide +kernel
def RLc_64 : List (List Nat) := RLc_63.set 34 [35]
theorem rc_64 : RLc_63.set 34 (rowS 35 0 (RLc_63.getD 34 [])) = RLc_64 := by rw [show RLc_63.getD 34 [] = [] by decide +kernel]; rfl
theorem rl_64 : RLc_64.length = 36 := by decide +kernel
def KLc_37 : List (Nat × Nat) := KLc_36 ++ [(4, 6)]
theorem kc_37 : KLc_36 ++ [(4, 6)] = KLc_37 := rfl
theorem kl_37 : KLc_37.length = 37 := by decide +kernel
def RLc_65 : List (List Nat) := RLc_64 ++ [[]]
theorem rc_65 : RLc_64 ++ [[]] = RLc_65 := rfl
theorem rl_65 : RLc_65.length = 37 := by decide +kernel
def RLc_66 : List (List Nat) := RLc_65.set 34 [35, 36]
theorem rc_66 : RLc_65.set 34 (rowS 36 1 (RLc_65.getD 34 [])) = RLc_66 := by rw [show RLc_65.getD 34 [] = [35] by decide +kernel]; rfl
theorem rl_66 : RLc_66.length = 37 := by decide +kernel
def Nc_19 : NN := m_up Nc_18 35 1 1
theorem nc_19 : (m_up Nc_18 35 1 1 : NN) = Nc_19 := rfl
def Nc_20 : NN := m_up Nc_19 35 196 (-1)
theorem nc_20 : (m_up Nc_19 35 196 (-1) : NN) = Nc_20 := rfl
def Nc_21 : NN := m_fl Nc_20 35 119 155 (-1)
theorem nc_21 : (m_fl Nc_20 35 119 155 (-1) : NN) = Nc_21 := rfl
def Nc_22 : NN := m_fl Nc_21 35 197 213 (-1)
theorem nc_22 : (m_fl Nc_21 35 197 213 (-1) : NN) = Nc_22 := rfl
def RLc_67 : List (List Nat) := RLc_66.set 33 [0, 34]
theorem rc_67 : RLc_66.set 33 (rowS 34 1 (RLc_66.getD 33 [])) = RLc_67 := by rw [show RLc_66.getD 33 [] = [] by decide +kernel]; rfl
theorem rl_67 : RLc_67.length = 37 := by decide +kernel
def KLc_38 : List (Nat × Nat) := KLc_37 ++ [(9, 0)]
theorem kc_38 : KLc_37 ++ [(9, 0)] = KLc_38 := rfl
theorem kl_38 : KLc_38.length = 38 := by decide +kernel
def RLc_68 : List (List Nat) := RLc_67 ++ [[]]
theorem rc_68 : RLc_67 ++ [[]] = RLc_68 := rfl
theorem rl_68 : RLc_68.length = 38 := by decide +kernel
def KLc_39 : List (Nat × Nat) := KLc_38 ++ [(1, 3056)]
theorem kc_39 : KLc_38 ++ [(1, 3056)] = KLc_39 := rfl
theorem kl_39 : KLc_39.length = 39 := by decide +kernel
def RLc_69 : List (List Nat) := RLc_68 ++ [[]]
theorem rc_69 : RLc_68 ++ [[]] = RLc_69 := rfl
theorem rl_69 : RLc_69.length = 39 := by decide +kernel
def RLc_70 : List (List Nat) := RLc_69.set 37 [38]
theorem rc_70 : RLc_69.set 37 (rowS 38 0 (RLc_69.getD 37 [])) = RLc_70 := by rw [show RLc_69.getD 37 [] = [] by decide +kernel]; rfl
theorem rl_70 : RLc_70.length = 39 := by decide +kernel
def KLc_40 : List (Nat × Nat) := KLc_39 ++ [(1, 16)]
theorem kc_40 : KLc_39 ++ [(1, 16)] = KLc_40 := rfl
theorem kl_40 : KLc_40.length = 40 := by decide +kernel
def RLc_71 : List (List Nat) := RLc_70 ++ [[]]
theorem rc_71 : RLc_70 ++ [[]] = RLc_71 := rfl
theorem rl_71 : RLc_71.length = 40 := by decide +kernel
def RLc_72 : List (List Nat) := RLc_71.set 37 [38, 39]
theorem rc_72 : RLc_71.set 37 (rowS 39 1 (RLc_71.getD 37 [])) = RLc_72 := by rw [show RLc_71.getD 37 [] = [38] by decide +kernel]; rfl
theorem rl_72 : RLc_72.length = 40 := by decide +kernel
def RLc_73 : List (List Nat) := RLc_72.set 33 [0, 34, 37]
theorem rc_73 : RLc_72.set 33 (rowS 37 2 (RLc_72.getD 33 [])) = RLc_73 := by rw [show RLc_72.getD 33 [] = [0, 34] by decide +kernel]; rfl
theorem rl_73 : RLc_73.length = 40 := by decide +kernel
def KLc_41 : List (Nat × Nat) := KLc_40 ++ [(1, 32)]
theorem kc_41 : KLc_40 ++ [(1, 32)] = KLc_41 := rfl
theorem kl_41 : KLc_41.length = 41 := by decide +kernel
def RLc_74 : List (List Nat) := RLc_73 ++ [[]]
theorem rc_74 : RLc_73 ++ [[]] = RLc_74 := rfl
theorem rl_74 : RLc_74.length = 41 := by decide +kernel
def RLc_75 : List (List Nat) := RLc_74.set 33 [0, 34, 37, 40]
theorem rc_75 : RLc_74.set 33 (rowS 40 3 (RLc_74.getD 33 [])) = RLc_75 := by rw [show RLc_74.getD 33 [] = [0, 34, 37] by decide +kernel]; rfl
theorem rl_75 : RLc_75.length = 41 := by decide +kernel
def KLc_42 : List (Nat × Nat) := KLc_41 ++ [(1, 32)]
theorem kc_42 : KLc_41 ++ [(1, 32)] = KLc_42 := rfl
theorem kl_42 : KLc_42.length = 42 := by decide +kernel
def RLc_76 : List (List Nat) := RLc_75 ++ [[]]
theorem rc_76 : RLc_75 ++ [[]] = RLc_76 := rfl
theorem rl_76 : RLc_76.length = 42 := by decide +kernel
def RLc_77 : List (List Nat) := RLc_76.set 33 [0, 34, 37, 40, 41]
theorem rc_77 : RLc_76.set 33 (rowS 41 4 (RLc_76.getD 33 [])) = RLc_77 := by rw [show RLc_76.getD 33 [] = [0, 34, 37, 40] by decide +kernel]; rfl
theorem rl_77 : RLc_77.length = 42 := by decide +kernel
def Nc_23 : NN := m_up Nc_22 33 5 (-1)
theorem nc_23 : (m_up Nc_22 33 5 (-1) : NN) = Nc_23 := rfl
def Nc_24 : NN := m_up Nc_23 33 7 (-1)
theorem nc_24 : (m_up Nc_23 33 7 (-1) : NN) = Nc_24 := rfl
def RLc_78 : List (List Nat) := RLc_77.set 33 [29, 34, 37, 40, 41]
theorem rc_78 : RLc_77.set 33 (rowS 29 0 (RLc_77.getD 33 [])) = RLc_78 := by rw [show RLc_77.getD 33 [] = [0, 34, 37, 40, 41] by decide +kernel]; rfl
theorem rl_78 : RLc_78.length = 42 := by decide +kernel
def RLc_79 : List (List Nat) := RLc_78.set 3 [4, 7, 10, 13, 16, 25, 29, 33]
theorem rc_79 : RLc_78.set 3 (rowS 33 7 (RLc_78.getD 3 [])) = RLc_79 := by rw [show RLc_78.getD 3 [] = [4, 7, 10, 13, 16, 25, 29] by decide +kernel]; rfl
theorem rl_79 : RLc_79.length = 42 := by decide +kernel
def KLc_43 : List (Nat × Nat) := KLc_42 ++ [(6, 0)]
theorem kc_43 : KLc_42 ++ [(6, 0)] = KLc_43 := rfl
theorem kl_43 : KLc_43.length = 43 := by decide +kernel
def RLc_80 : List (List Nat) := RLc_79 ++ [[]]
theorem rc_80 : RLc_79 ++ [[]] = RLc_80 := rfl
theorem rl_80 : RLc_80.length = 43 := by decide +kernel
def KLc_44 : List (Nat × Nat) := KLc_43 ++ [(1, 12)]
theorem kc_44 : KLc_43 ++ [(1, 12)] = KLc_44 := rfl
theorem kl_44 : KLc_44.length = 44 := by decide +kernel
def RLc_81 : List (List Nat) := RLc_80 ++ [[]]
theorem rc_81 : RLc_80 ++ [[]] = RLc_81 := rfl
theorem rl_81 : RLc_81.length = 44 := by decide +kernel
def RLc_82 : List (List Nat) := RLc_81.set 42 [0, 43]
theorem rc_82 : RLc_81.set 42 (rowS 43 1 (RLc_81.getD 42 [])) = RLc_82 := by rw [show RLc_81.getD 42 [] = [] by decide +kernel]; rfl
theorem rl_82 : RLc_82.length = 44 := by decide +kernel
def KLc_45 : List (Nat × Nat) := KLc_44 ++ [(1, 12)]
theorem kc_45 : KLc_44 ++ [(1, 12)] = KLc_45 := rfl
theorem kl_45 : KLc_45.length = 45 := by decide +kernel
def RLc_83 : List (List Nat) := RLc_82 ++ [[]]
theorem rc_83 : RLc_82 ++ [[]] = RLc_83 := rfl
theorem rl_83 : RLc_83.length = 45 := by decide +kernel
def RLc_84 : List (List Nat) := RLc_83.set 42 [0, 43, 44]
theorem rc_84 : RLc_83.set 42 (rowS 44 2 (RLc_83.getD 42 [])) = RLc_84 := by rw [show RLc_83.getD 42 [] = [0, 43] by decide +kernel]; rfl
theorem rl_84 : RLc_84.length = 45 := by decide +kernel
def KLc_46 : List (Nat × Nat) := KLc_45 ++ [(1, 12)]
theorem kc_46 : KLc_45 ++ [(1, 12)] = KLc_46 := rfl
theorem kl_46 : KLc_46.length = 46 := by decide +kernel
def RLc_85 : List (List Nat) := RLc_84 ++ [[]]
theorem rc_85 : RLc_84 ++ [[]] = RLc_85 := rfl
theorem rl_85 : RLc_85.length = 46 := by decide +kernel
def RLc_86 : List (List Nat) := RLc_85.set 42 [0, 43, 44, 45]
theorem rc_86 : RLc_85.set 42 (rowS 45 3 (RLc_85.getD 42 [])) = RLc_86 := by rw [show RLc_85.getD 42 [] = [0, 43, 44] by decide +kernel]; rfl
theorem rl_86 : RLc_86.length = 46 := by decide +kernel
def KLc_47 : List (Nat × Nat) := KLc_46 ++ [(1, 2)]
theorem kc_47 : KLc_46 ++ [(1, 2)] = KLc_47 := rfl
theorem kl_47 : KLc_47.length = 47 := by decide +kernel
def RLc_87 : List (List Nat) := RLc_86 ++ [[]]
theorem rc_87 : RLc_86 ++ [[]] = RLc_87 := rfl
theorem rl_87 : RLc_87.length = 47 := by decide +kernel
def RLc_88 : List (List Nat) := RLc_87.set 42 [0, 43, 44, 45, 46]
theorem rc_88 : RLc_87.set 42 (rowS 46 4 (RLc_87.getD 42 [])) = RLc_88 := by rw [show RLc_87.getD 42 [] = [0, 43, 44, 45] by decide +kernel]; rfl
theorem rl_88 : RLc_88.length = 47 := by decide +kernel
def KLc_48 : List (Nat × Nat) := KLc_47 ++ [(1, 2)]
theorem kc_48 : KLc_47 ++ [(1, 2)] = KLc_48 := rfl
theorem kl_48 : KLc_48.length = 48 := by decide +kernel
def RLc_89 : List (List Nat) := RLc_88 ++ [[]]
theorem rc_89 : RLc_88 ++ [[]] = RLc_89 := rfl
theorem rl_89 : RLc_89.length = 48 := by decide +kernel
def RLc_90 : List (List Nat) := RLc_89.set 42 [0, 43, 44, 45, 46, 47]
theorem rc_90 : RLc_89.set 42 (rowS 47 5 (RLc_89.getD 42 [])) = RLc_90 := by rw [show RLc_89.getD 42 [] = [0, 43, 44, 45, 46] by decide +kernel]; rfl
theorem rl_90 : RLc_90.length = 48 := by decide +kernel
def RLc_91 : List (List Nat) := RLc_90.set 42 [25, 43, 44, 45, 46, 47]
theorem rc_91 : RLc_90.set 42 (rowS 25 0 (RLc_90.getD 42 [])) = RLc_91 := by rw [show RLc_90.getD 42 [] = [0, 43, 44, 45, 46, 47] by decide +kernel]; rfl
theorem rl_91 : RLc_91.length = 48 := by decide +kernel
def RLc_92 : List (List Nat) := RLc_91.set 3 [4, 7, 10, 13, 16, 25, 29, 33, 42]
theorem rc_92 : RLc_91.set 3 (rowS 42 8 (RLc_91.getD 3 [])) = RLc_92 := by rw [show RLc_91.getD 3 [] = [4, 7, 10, 13, 16, 25, 29, 33] by decide +kernel]; rfl
theorem rl_92 : RLc_92.length = 48 := by decide +kernel
def KLc_49 : List (Nat × Nat) := KLc_48 ++ [(12, 0)]
theorem kc_49 : KLc_48 ++ [(12, 0)] = KLc_49 := rfl
theorem kl_49 : KLc_49.length = 49 := by decide +kernel
def RLc_93 : List (List Nat) := RLc_92 ++ [[]]
theorem rc_93 : RLc_92 ++ [[]] = RLc_93 := rfl
theorem rl_93 : RLc_93.length = 49 := by decide +kernel
def KLc_50 : List (Nat × Nat) := KLc_49 ++ [(1, 10)]
theorem kc_50 : KLc_49 ++ [(1, 10)] = KLc_50 := rfl
theorem kl_50 : KLc_50.length = 50 := by decide +kernel
def RLc_94 : List (List Nat) := RLc_93 ++ [[]]
theorem rc_94 : RLc_93 ++ [[]] = RLc_94 := rfl
theorem rl_94 : RLc_94.length = 50 := by decide +kernel
def RLc_95 : List (List Nat) := RLc_94.set 48 [0, 49]
theorem rc_95 : RLc_94.set 48 (rowS 49 1 (RLc_94.getD 48 [])) = RLc_95 := by rw [show RLc_94.getD 48 [] = [] by decide +kernel]; rfl
theorem rl_95 : RLc_95.length = 50 := by decide +kernel
def KLc_51 : List (Nat × Nat) := KLc_50 ++ [(1, 10)]
theorem kc_51 : KLc_50 ++ [(1, 10)] = KLc_51 := rfl
theorem kl_51 : KLc_51.length = 51 := by decide +kernel
def RLc_96 : List (List Nat) := RLc_95 ++ [[]]
theorem rc_96 : RLc_95 ++ [[]] = RLc_96 := rfl
theorem rl_96 : RLc_96.length = 51 := by decide +kernel
def RLc_97 : List (List Nat) := RLc_96.set 48 [0, 49, 50]
theorem rc_97 : RLc_96.set 48 (rowS 50 2 (RLc_96.getD 48 [])) = RLc_97 := by rw [show RLc_96.getD 48 [] = [0, 49] by decide +kernel]; rfl
theorem rl_97 : RLc_97.length = 51 := by decide +kernel
def KLc_52 : List (Nat × Nat) := KLc_51 ++ [(1, 90)]
theorem kc_52 : KLc_51 ++ [(1, 90)] = KLc_52 := rfl
theorem kl_52 : KLc_52.length = 52 := by decide +kernel
def RLc_98 : List (List Nat) := RLc_97 ++ [[]]
theorem rc_98 : RLc_97 ++ [[]] = RLc_98 := rfl
theorem rl_98 : RLc_98.length = 52 := by decide +kernel
def RLc_99 : List (List Nat) := RLc_98.set 48 [0, 49, 50, 51]
theorem rc_99 : RLc_98.set 48 (rowS 51 3 (RLc_98.getD 48 [])) = RLc_99 := by rw [show RLc_98.getD 48 [] = [0, 49, 50] by decide +kernel]; rfl
theorem rl_99 : RLc_99.length = 52 := by decide +kernel
def KLc_53 : List (Nat × Nat) := KLc_52 ++ [(1, 9)]
theorem kc_53 : KLc_52 ++ [(1, 9)] = KLc_53 := rfl
theorem kl_53 : KLc_53.length = 53 := by decide +kernel
def RLc_100 : List (List Nat) := RLc_99 ++ [[]]
theorem rc_100 : RLc_99 ++ [[]] = RLc_100 := rfl
theorem rl_100 : RLc_100.length = 53 := by decide +kernel
def RLc_101 : List (List Nat) := RLc_100.set 48 [0, 49, 50, 51, 52]
theorem rc_101 : RLc_100.set 48 (rowS 52 4 (RLc_100.getD 48 [])) = RLc_101 := by rw [show RLc_100.getD 48 [] = [0, 49, 50, 51] by decide +kernel]; rfl
theorem rl_101 : RLc_101.length = 53 := by decide +kernel
def RLc_102 : List (List Nat) := RLc_101.set 48 [25, 49, 50, 51, 52]
theorem rc_102 : RLc_101.set 48 (rowS 25 0 (RLc_101.getD 48 [])) = RLc_102 := by rw [show RLc_101.getD 48 [] = [0, 49, 50, 51, 52] by decide +kernel]; rfl
theorem rl_102 : RLc_102.length = 53 := by decide +kernel
def RLc_103 : List (List Nat) := RLc_102.set 3 [4, 7, 10, 13, 16, 25, 29, 33, 42, 48]
theorem rc_103 : RLc_102.set 3 (rowS 48 9 (RLc_102.getD 3 [])) = RLc_103 := by rw [show RLc_102.getD 3 [] = [4, 7, 10, 13, 16, 25, 29, 33, 42] by decide +kernel]; rfl
theorem rl_103 : RLc_103.length = 53 := by decide +kernel
def KLc_54 : List (Nat × Nat) := KLc_53 ++ [(14, 0)]
theorem kc_54 : KLc_53 ++ [(14, 0)] = KLc_54 := rfl
theorem kl_54 : KLc_54.length = 54 := by decide +kernel
def RLc_104 : List (List Nat) := RLc_103 ++ [[]]
theorem rc_104 : RLc_103 ++ [[]] = RLc_104 := rfl
theorem rl_104 : RLc_104.length = 54 := by decide +kernel
def KLc_55 : List (Nat × Nat) := KLc_54 ++ [(1, 36)]
theorem kc_55 : KLc_54 ++ [(1, 36)] = KLc_55 := rfl
theorem kl_55 : KLc_55.length = 55 := by decide +kernel
def RLc_105 : List (List Nat) := RLc_104 ++ [[]]
theorem rc_105 : RLc_104 ++ [[]] = RLc_105 := rfl
theorem rl_105 : RLc_105.length = 55 := by decide +kernel
def RLc_106 : List (List Nat) := RLc_105.set 53 [54]
theorem rc_106 : RLc_105.set 53 (rowS 54 0 (RLc_105.getD 53 [])) = RLc_106 := by rw [show RLc_105.getD 53 [] = [] by decide +kernel]; rfl
theorem rl_106 : RLc_106.length = 55 := by decide +kernel
def KLc_56 : List (Nat × Nat) := KLc_55 ++ [(1, 36)]
theorem kc_56 : KLc_55 ++ [(1, 36)] = KLc_56 := rfl
theorem kl_56 : KLc_56.length = 56 := by decide +kernel
def RLc_107 : List (List Nat) := RLc_106 ++ [[]]
theorem rc_107 : RLc_106 ++ [[]] = RLc_107 := rfl
theorem rl_107 : RLc_107.length = 56 := by decide +kernel
def RLc_108 : List (List Nat) := RLc_107.set 53 [54, 55]
theorem rc_108 : RLc_107.set 53 (rowS 55 1 (RLc_107.getD 53 [])) = RLc_108 := by rw [show RLc_107.getD 53 [] = [54] by decide +kernel]; rfl
theorem rl_108 : RLc_108.length = 56 := by decide +kernel
def KLc_57 : List (Nat × Nat) := KLc_56 ++ [(1, 6)]
theorem kc_57 : KLc_56 ++ [(1, 6)] = KLc_57 := rfl
theorem kl_57 : KLc_57.length = 57 := by decide +kernel
def RLc_109 : List (List Nat) := RLc_108 ++ [[]]
theorem rc_109 : RLc_108 ++ [[]] = RLc_109 := rfl
theorem rl_109 : RLc_109.length = 57 := by decide +kernel
def RLc_110 : List (List Nat) := RLc_109.set 53 [54, 55, 56]
theorem rc_110 : RLc_109.set 53 (rowS 56 2 (RLc_109.getD 53 [])) = RLc_110 := by rw [show RLc_109.getD 53 [] = [54, 55] by decide +kernel]; rfl
theorem rl_110 : RLc_110.length = 57 := by decide +kernel
def KLc_58 : List (Nat × Nat) := KLc_57 ++ [(1, 6)]
theorem kc_58 : KLc_57 ++ [(1, 6)] = KLc_58 := rfl
theorem kl_58 : KLc_58.length = 58 := by decide +kernel
def RLc_111 : List (List Nat) := RLc_110 ++ [[]]
theorem rc_111 : RLc_110 ++ [[]] = RLc_111 := rfl
theorem rl_111 : RLc_111.length = 58 := by decide +kernel
def RLc_112 : List (List Nat) := RLc_111.set 53 [54, 55, 56, 57]
theorem rc_112 : RLc_111.set 53 (rowS 57 3 (RLc_111.getD 53 [])) = RLc_112 := by rw [show RLc_111.getD 53 [] = [54, 55, 56] by decide +kernel]; rfl
theorem rl_112 : RLc_112.length = 58 := by decide +kernel
def Nc_25 : NN := m_up Nc_24 53 8 (-1)
theorem nc_25 : (m_up Nc_24 53 8 (-1) : NN) = Nc_25 := rfl
def RLc_113 : List (List Nat) := RLc_112.set 3 [4, 7, 10, 13, 16, 25, 29, 33, 42, 48, 53]
theorem rc_113 : RLc_112.set 3 (rowS 53 10 (RLc_112.getD 3 [])) = RLc_113 := by rw [show RLc_112.getD 3 [] = [4, 7, 10, 13, 16, 25, 29, 33, 42, 48] by decide +kernel]; rfl
theorem rl_113 : RLc_113.length = 58 := by decide +kernel
def KLc_59 : List (Nat × Nat) := KLc_58 ++ [(11, 0)]
theorem kc_59 : KLc_58 ++ [(11, 0)] = KLc_59 := rfl
theorem kl_59 : KLc_59.length = 59 := by decide +kernel
def RLc_114 : List (List Nat) := RLc_113 ++ [[]]
theorem rc_114 : RLc_113 ++ [[]] = RLc_114 := rfl
theorem rl_114 : RLc_114.length = 59 := by decide +kernel
def KLc_60 : List (Nat × Nat) := KLc_59 ++ [(3, 576)]
theorem kc_60 : KLc_59 ++ [(3, 576)] = KLc_60 := rfl
theorem kl_60 : KLc_60.length = 60 := by decide +kernel
def RLc_115 : List (List Nat) := RLc_114 ++ [[]]
theorem rc_115 : RLc_114 ++ [[]] = RLc_115 := rfl
theorem rl_115 : RLc_115.length = 60 := by decide +kernel
def RLc_116 : List (List Nat) := RLc_115.set 58 [0, 59]
theorem rc_116 : RLc_115.set 58 (rowS 59 1 (RLc_115.getD 58 [])) = RLc_116 := by rw [show RLc_115.getD 58 [] = [] by decide +kernel]; rfl
theorem rl_116 : RLc_116.length = 60 := by decide +kernel
def KLc_61 : List (Nat × Nat) := KLc_60 ++ [(1, 384)]
theorem kc_61 : KLc_60 ++ [(1, 384)] = KLc_61 := rfl
theorem kl_61 : KLc_61.length = 61 := by decide +kernel
def RLc_117 : List (List Nat) := RLc_116 ++ [[]]
theorem rc_117 : RLc_116 ++ [[]] = RLc_117 := rfl
theorem rl_117 : RLc_117.length = 61 := by decide +kernel
def RLc_118 : List (List Nat) := RLc_117.set 58 [0, 59, 60]
theorem rc_118 : RLc_117.set 58 (rowS 60 2 (RLc_117.getD 58 [])) = RLc_118 := by rw [show RLc_117.getD 58 [] = [0, 59] by decide +kernel]; rfl
theorem rl_118 : RLc_118.length = 61 := by decide +kernel
def KLc_62 : List (Nat × Nat) := KLc_61 ++ [(1, 16)]
theorem kc_62 : KLc_61 ++ [(1, 16)] = KLc_62 := rfl
theorem kl_62 : KLc_62.length = 62 := by decide +kernel
def RLc_119 : List (List Nat) := RLc_118 ++ [[]]
theorem rc_119 : RLc_118 ++ [[]] = RLc_119 := rfl
theorem rl_119 : RLc_119.length = 62 := by decide +kernel
def RLc_120 : List (List Nat) := RLc_119.set 58 [0, 59, 60, 61]
theorem rc_120 : RLc_119.set 58 (rowS 61 3 (RLc_119.getD 58 [])) = RLc_120 := by rw [show RLc_119.getD 58 [] = [0, 59, 60] by decide +kernel]; rfl
theorem rl_120 : RLc_120.length = 62 := by decide +kernel
def KLc_63 : List (Nat × Nat) := KLc_62 ++ [(1, 4)]
theorem kc_63 : KLc_62 ++ [(1, 4)] = KLc_63 := rfl
theorem kl_63 : KLc_63.length = 63 := by decide +kernel
def RLc_121 : List (List Nat) := RLc_120 ++ [[]]
theorem rc_121 : RLc_120 ++ [[]] = RLc_121 := rfl
theorem rl_121 : RLc_121.length = 63 := by decide +kernel
def RLc_122 : List (List Nat) := RLc_121.set 58 [0, 59, 60, 61, 62]
theorem rc_122 : RLc_121.set 58 (rowS 62 4 (RLc_121.getD 58 [])) = RLc_122 := by rw [show RLc_121.getD 58 [] = [0, 59, 60, 61] by decide +kernel]; rfl
theorem rl_122 : RLc_122.length = 63 := by decide +kernel
def Nc_26 : NN := m_up Nc_25 58 7 (-1)
theorem nc_26 : (m_up Nc_25 58 7 (-1) : NN) = Nc_26 := rfl
def Nc_27 : NN := m_up Nc_26 58 8 (-1)
theorem nc_27 : (m_up Nc_26 58 8 (-1) : NN) = Nc_27 := rfl
def RLc_123 : List (List Nat) := RLc_122.set 58 [25, 59, 60, 61, 62]
theorem rc_123 : RLc_122.set 58 (rowS 25 0 (RLc_122.getD 58 [])) = RLc_123 := by rw [show RLc_122.getD 58 [] = [0, 59, 60, 61, 62] by decide +kernel]; rfl
theorem rl_123 : RLc_123.length = 63 := by decide +kernel
def RLc_124 : List (List Nat) := RLc_123.set 3 [4, 7, 10, 13, 16, 25, 29, 33, 42, 48, 53, 58]
theorem rc_124 : RLc_123.set 3 (rowS 58 11 (RLc_123.getD 3 [])) = RLc_124 := by rw [show RLc_123.getD 3 [] = [4, 7, 10, 13, 16, 25, 29, 33, 42, 48, 53] by decide +kernel]; rfl
theorem rl_124 : RLc_124.length = 63 := by decide +kernel
def KLc_64 : List (Nat × Nat) := KLc_63 ++ [(1, 7)]
theorem kc_64 : KLc_63 ++ [(1, 7)] = KLc_64 := rfl
theorem kl_64 : KLc_64.length = 64 := by decide +kernel
def RLc_125 : List (List Nat) := RLc_124 ++ [[]]
theorem rc_125 : RLc_124 ++ [[]] = RLc_125 := rfl
theorem rl_125 : RLc_125.length = 64 := by decide +kernel
def RLc_126 : List (List Nat) := RLc_125.set 3 [4, 7, 10, 13, 16, 25, 29, 33, 42, 48, 53, 58, 63]
theorem rc_126 : RLc_125.set 3 (rowS 63 12 (RLc_125.getD 3 [])) = RLc_126 := by rw [show RLc_125.getD 3 [] = [4, 7, 10, 13, 16, 25, 29, 33, 42, 48, 53, 58] by decide +kernel]; rfl
theorem rl_126 : RLc_126.length = 64 := by decide +kernel
def KLc_65 : List (Nat × Nat) := KLc_64 ++ [(17, 0)]
theorem kc_65 : KLc_64 ++ [(17, 0)] = KLc_65 := rfl
theorem kl_65 : KLc_65.length = 65 := by decide +kernel
def RLc_127 : List (List Nat) := RLc_126 ++ [[]]
theorem rc_127 : RLc_126 ++ [[]] = RLc_127 := rfl
theorem rl_127 : RLc_127.length = 65 := by decide +kernel
def KLc_66 : List (Nat × Nat) := KLc_65 ++ [(1, 7)]
theorem kc_66 : KLc_65 ++ [(1, 7)] = KLc_66 := rfl
theorem kl_66 : KLc_66.length = 66 := by decide +kernel
def RLc_128 : List (List Nat) := RLc_127 ++ [[]]
theorem rc_128 : RLc_127 ++ [[]] = RLc_128 := rfl
theorem rl_128 : RLc_128.length = 66 := by decide +kernel
def RLc_129 : List (List Nat) := RLc_128.set 64 [0, 0, 65]
theorem rc_129 : RLc_128.set 64 (rowS 65 2 (RLc_128.getD 64 [])) = RLc_129 := by rw [show RLc_128.getD 64 [] = [] by decide +kernel]; rfl
theorem rl_129 : RLc_129.length = 66 := by decide +kernel
def KLc_67 : List (Nat × Nat) := KLc_66 ++ [(1, 5670)]
theorem kc_67 : KLc_66 ++ [(1, 5670)] = KLc_67 := rfl
theorem kl_67 : KLc_67.length = 67 := by decide +kernel
def RLc_130 : List (List Nat) := RLc_129 ++ [[]]
theorem rc_130 : RLc_129 ++ [[]] = RLc_130 := rfl
theorem rl_130 : RLc_130.length = 67 := by decide +kernel
def RLc_131 : List (List Nat) := RLc_130.set 64 [0, 0, 65, 66]
theorem rc_131 : RLc_130.set 64 (rowS 66 3 (RLc_130.getD 64 [])) = RLc_131 := by rw [show RLc_130.getD 64 [] = [0, 0, 65] by decide +kernel]; rfl
theorem rl_131 : RLc_131.length = 67 := by decide +kernel
def KLc_68 : List (Nat × Nat) := KLc_67 ++ [(1, 11340)]
theorem kc_68 : KLc_67 ++ [(1, 11340)] = KLc_68 := rfl
theorem kl_68 : KLc_68.length = 68 := by decide +kernel
def RLc_132 : List (List Nat) := RLc_131 ++ [[]]
theorem rc_132 : RLc_131 ++ [[]] = RLc_132 := rfl
theorem rl_132 : RLc_132.length = 68 := by decide +kernel
def RLc_133 : List (List Nat) := RLc_132.set 64 [0, 0, 65, 66, 67]
theorem rc_133 : RLc_132.set 64 (rowS 67 4 (RLc_132.getD 64 [])) = RLc_133 := by rw [show RLc_132.getD 64 [] = [0, 0, 65, 66] by decide +kernel]; rfl
theorem rl_133 : RLc_133.length = 68 := by decide +kernel
def KLc_69 : List (Nat × Nat) := KLc_68 ++ [(3, 2)]
theorem kc_69 : KLc_68 ++ [(3, 2)] = KLc_69 := rfl
theorem kl_69 : KLc_69.length = 69 := by decide +kernel
def RLc_134 : List (List Nat) := RLc_133 ++ [[]]
theorem rc_134 : RLc_133 ++ [[]] = RLc_134 := rfl
theorem rl_134 : RLc_134.length = 69 := by decide +kernel
def RLc_135 : List (List Nat) := RLc_134.set 64 [0, 0, 65, 66, 67, 68]
theorem rc_135 : RLc_134.set 64 (rowS 68 5 (RLc_134.getD 64 [])) = RLc_135 := by rw [show RLc_134.getD 64 [] = [0, 0, 65, 66, 67] by decide +kernel]; rfl
theorem rl_135 : RLc_135.length = 69 := by decide +kernel
def KLc_70 : List (Nat × Nat) := KLc_69 ++ [(1, 4860)]
theorem kc_70 : KLc_69 ++ [(1, 4860)] = KLc_70 := rfl
theorem kl_70 : KLc_70.length = 70 := by decide +kernel
def RLc_136 : List (List Nat) := RLc_135 ++ [[]]
theorem rc_136 : RLc_135 ++ [[]] = RLc_136 := rfl
theorem rl_136 : RLc_136.length = 70 := by decide +kernel
def RLc_137 : List (List Nat) := RLc_136.set 64 [0, 0, 65, 66, 67, 68, 69]
theorem rc_137 : RLc_136.set 64 (rowS 69 6 (RLc_136.getD 64 [])) = RLc_137 := by rw [show RLc_136.getD 64 [] = [0, 0, 65, 66, 67, 68] by decide +kernel]; rfl
theorem rl_137 : RLc_137.length = 70 := by decide +kernel
def KLc_71 : List (Nat × Nat) := KLc_70 ++ [(1, 16)]
theorem kc_71 : KLc_70 ++ [(1, 16)] = KLc_71 := rfl
theorem kl_71 : KLc_71.length = 71 := by decide +kernel
def RLc_138 : List (List Nat) := RLc_137 ++ [[]]
theorem rc_138 : RLc_137 ++ [[]] = RLc_138 := rfl
theorem rl_138 : RLc_138.length = 71 := by decide +kernel
def RLc_139 : List (List Nat) := RLc_138.set 64 [0, 0, 65, 66, 67, 68, 69, 70]
theorem rc_139 : RLc_138.set 64 (rowS 70 7 (RLc_138.getD 64 [])) = RLc_139 := by rw [show RLc_138.getD 64 [] = [0, 0, 65, 66, 67, 68, 69] by decide +kernel]; rfl
theorem rl_139 : RLc_139.length = 71 := by decide +kernel
def KLc_72 : List (Nat × Nat) := KLc_71 ++ [(1, 4320)]
theorem kc_72 : KLc_71 ++ [(1, 4320)] = KLc_72 := rfl
theorem kl_72 : KLc_72.length = 72 := by decide +kernel
def RLc_140 : List (List Nat) := RLc_139 ++ [[]]
theorem rc_140 : RLc_139 ++ [[]] = RLc_140 := rfl
theorem rl_140 : RLc_140.length = 72 := by decide +kernel
def RLc_141 : List (List Nat) := RLc_140.set 64 [0, 0, 65, 66, 67, 68, 69, 70, 0, 71]
theorem rc_141 : RLc_140.set 64 (rowS 71 9 (RLc_140.getD 64 [])) = RLc_141 := by rw [show RLc_140.getD 64 [] = [0, 0, 65, 66, 67, 68, 69, 70] by decide +kernel]; rfl
theorem rl_141 : RLc_141.length = 72 := by decide +kernel
def KLc_73 : List (Nat × Nat) := KLc_72 ++ [(1, 16)]
theorem kc_73 : KLc_72 ++ [(1, 16)] = KLc_73 := rfl
theorem kl_73 : KLc_73.length = 73 := by decide +kernel
def RLc_142 : List (List Nat) := RLc_141 ++ [[]]
theorem rc_142 : RLc_141 ++ [[]] = RLc_142 := rfl
theorem rl_142 : RLc_142.length = 73 := by decide +kernel
def RLc_143 : List (List Nat) := RLc_142.set 64 [0, 0, 65, 66, 67, 68, 69, 70, 0, 71, 72]
theorem rc_143 : RLc_142.set 64 (rowS 72 10 (RLc_142.getD 64 [])) = RLc_143 := by rw [show RLc_142.getD 64 [] = [0, 0, 65, 66, 67, 68, 69, 70, 0, 71] by decide +kernel]; rfl
theorem rl_143 : RLc_143.length = 73 := by decide +kernel
def KLc_74 : List (Nat × Nat) := KLc_73 ++ [(1, 400)]
theorem kc_74 : KLc_73 ++ [(1, 400)] = KLc_74 := rfl
theorem kl_74 : KLc_74.length = 74 := by decide +kernel
def RLc_144 : List (List Nat) := RLc_143 ++ [[]]
theorem rc_144 : RLc_143 ++ [[]] = RLc_144 := rfl
theorem rl_144 : RLc_144.length = 74 := by decide +kernel
def RLc_145 : List (List Nat) := RLc_144.set 64 [0, 0, 65, 66, 67, 68, 69, 70, 0, 71, 72, 0, 73]
theorem rc_145 : RLc_144.set 64 (rowS 73 12 (RLc_144.getD 64 [])) = RLc_145 := by rw [show RLc_144.getD 64 [] = [0, 0, 65, 66, 67, 68, 69, 70, 0, 71, 72] by decide +kernel]; rfl
theorem rl_145 : RLc_145.length = 74 := by decide +kernel
def Nc_28 : NN := m_up Nc_27 64 18 (-1)
theorem nc_28 : (m_up Nc_27 64 18 (-1) : NN) = Nc_28 := rfl
def KLc_75 : List (Nat × Nat) := KLc_74 ++ [(1, 96)]
theorem kc_75 : KLc_74 ++ [(1, 96)] = KLc_75 := rfl
theorem kl_75 : KLc_75.length = 75 := by decide +kernel
def RLc_146 : List (List Nat) := RLc_145 ++ [[]]
theorem rc_146 : RLc_145 ++ [[]] = RLc_146 := rfl
theorem rl_146 : RLc_146.length = 75 := by decide +kernel
def RLc_147 : List (List Nat) := RLc_146.set 64 [0, 0, 65, 66, 67, 68, 69, 70, 0, 71, 72, 0, 73, 0, 0, 0, 0, 0, 0, 0, 0, 0, 74]
theorem rc_147 : RLc_146.set 64 (rowS 74 22 (RLc_146.getD 64 [])) = RLc_147 := by rw [show RLc_146.getD 64 [] = [0, 0, 65, 66, 67, 68, 69, 70, 0, 71, 72, 0, 73] by decide +kernel]; rfl
theorem rl_147 : RLc_147.length = 75 := by decide +kernel
def KLc_76 : List (Nat × Nat) := KLc_75 ++ [(1, 400)]
theorem kc_76 : KLc_75 ++ [(1, 400)] = KLc_76 := rfl
theorem kl_76 : KLc_76.length = 76 := by decide +kernel
def RLc_148 : List (List Nat) := RLc_147 ++ [[]]
theorem rc_148 : RLc_147 ++ [[]] = RLc_148 := rfl
theorem rl_148 : RLc_148.length = 76 := by decide +kernel
def RLc_149 : List (List Nat) := RLc_148.set 64 [0, 0, 65, 66, 67, 68, 69, 70, 0, 71, 72, 0, 73, 0, 0, 0, 0, 0, 0, 0, 0, 0, 74, 0, 75]
theorem rc_149 : RLc_148.set 64 (rowS 75 24 (RLc_148.getD 64 [])) = RLc_149 := by rw [show RLc_148.getD 64 [] = [0, 0, 65, 66, 67, 68, 69, 70, 0, 71, 72, 0, 73, 0, 0, 0, 0, 0, 0, 0, 0, 0, 74] by decide +kernel]; rfl
theorem rl_149 : RLc_149.length = 76 := by decide +kernel
def KLc_77 : List (Nat × Nat) := KLc_76 ++ [(1, 400)]
theorem kc_77 : KLc_76 ++ [(1, 400)] = KLc_77 := rfl
theorem kl_77 : KLc_77.length = 77 := by decide +kernel
def RLc_150 : List (List Nat) := RLc_149 ++ [[]]
theorem rc_150 : RLc_149 ++ [[]] = RLc_150 := rfl
theorem rl_150 : RLc_150.length = 77 := by decide +kernel
def RLc_151 : List (List Nat) := RLc_150.set 64 [0, 0, 65, 66, 67, 68, 69, 70, 0, 71, 72, 0, 73, 0, 0, 0, 0, 0, 0, 0, 0, 0, 74, 0, 75, 76]
theorem rc_151 : RLc_150.set 64 (rowS 76 25 (RLc_150.getD 64 [])) = RLc_151 := by rw [show RLc_150.getD 64 [] = [0, 0, 65, 66, 67, 68, 69, 70, 0, 71, 72, 0, 73, 0, 0, 0, 0, 0, 0, 0, 0, 0, 74, 0, 75] by decide +kernel]; rfl
theorem rl_151 : RLc_151.length = 77 := by decide +kernel
def KLc_78 : List (Nat × Nat) := KLc_77 ++ [(1, 400)]
theorem kc_78 : KLc_77 ++ [(1, 400)] = KLc_78 := rfl
theorem kl_78 : KLc_78.length = 78 := by decide +kernel
def RLc_152 : List (List Nat) := RLc_151 ++ [[]]
theorem rc_152 : RLc_151 ++ [[]] = RLc_152 := rfl
theorem rl_152 : RLc_152.length = 78 := by decide +kernel
def RLc_153 : List (List Nat) := RLc_152.set 64 [0, 0, 65, 66, 67, 68, 69, 70, 0, 71, 72, 0, 73, 0, 0, 0, 0, 0, 0, 0, 0, 0, 74, 0, 75, 76, 0, 77]
theorem rc_153 : RLc_152.set 64 (rowS 77 27 (RLc_152.getD 64 [])) = RLc_153 := by rw [show RLc_152.getD 64 [] = [0, 0, 65, 66, 67, 68, 69, 70, 0, 71, 72, 0, 73, 0, 0, 0, 0, 0, 0, 0, 0, 0, 74, 0, 75, 76] by decide +kernel]; rfl
theorem rl_153 : RLc_153.length = 78 := by decide +kernel
def KLc_79 : List (Nat × Nat) := KLc_78 ++ [(1, 400)]
theorem kc_79 : KLc_78 ++ [(1, 400)] = KLc_79 := rfl
theorem kl_79 : KLc_79.length = 79 := by decide +kernel
def RLc_154 : List (List Nat) := RLc_153 ++ [[]]
theorem rc_154 : RLc_153 ++ [[]] = RLc_154 := rfl
theorem rl_154 : RLc_154.length = 79 := by decide +kernel
def RLc_155 : List (List Nat) := RLc_154.set 64 [0, 0, 65, 66, 67, 68, 69, 70, 0, 71, 72, 0, 73, 0, 0, 0, 0, 0, 0, 0, 0, 0, 74, 0, 75, 76, 0, 77, 78]
theorem rc_155 : RLc_154.set 64 (rowS 78 28 (RLc_154.getD 64 [])) = RLc_155 := by rw [show RLc_154.getD 64 [] = [0, 0, 65, 66, 67, 68, 69, 70, 0, 71, 72, 0, 73, 0, 0, 0, 0, 0, 0, 0, 0, 0, 74, 0, 75, 76, 0, 77] by decide +kernel]; rfl
theorem rl_155 : RLc_155.length = 79 := by decide +kernel
def KLc_80 : List (Nat × Nat) := KLc_79 ++ [(2, 9)]
theorem kc_80 : KLc_79 ++ [(2, 9)] = KLc_80 := rfl
theorem kl_80 : KLc_80.length = 80 := by decide +kernel
def RLc_156 : List (List Nat) := RLc_155 ++ [[]]
theorem rc_156 : RLc_155 ++ [[]] = RLc_156 := rfl
theorem rl_156 : RLc_156.length = 80 := by decide +kernel
def Nc_29 : NN := m_up Nc_28 79 0 245220
theorem nc_29 : (m_up Nc_28 79 0 245220 : NN) = Nc_29 := rfl
def Nc_30 : NN := m_up Nc_29 79 1 67173
theorem nc_30 : (m_up Nc_29 79 1 67173 : NN) = Nc_30 := rfl
def Nc_31 : NN := m_up Nc_30 79 2 365744
theorem nc_31 : (m_up Nc_30 79 2 365744 : NN) = Nc_31 := rfl
def Nc_32 : NN := m_up Nc_31 79 3 7657646
theorem nc_32 : (m_up Nc_31 79 3 7657646 : NN) = Nc_32 := rfl
def Nc_33 : NN := m_up Nc_32 79 4 7657650
theorem nc_33 : (m_up Nc_32 79 4 7657650 : NN) = Nc_33 := rfl
def Nc_34 : NN := m_up Nc_33 79 5 655
theorem nc_34 : (m_up Nc_33 79 5 655 : NN) = Nc_34 := rfl
def Nc_35 : NN := m_up Nc_34 79 6 824370
theorem nc_35 : (m_up Nc_34 79 6 824370 : NN) = Nc_35 := rfl
def Nc_36 : NN := m_up Nc_35 79 7 274269572
theorem nc_36 : (m_up Nc_35 79 7 274269572 : NN) = Nc_36 := rfl
def Nc_37 : NN := m_up Nc_36 79 8 441828
theorem nc_37 : (m_up Nc_36 79 8 441828 : NN) = Nc_37 := rfl
def RLc_157 : List (List Nat) := RLc_156.set 64 [0, 0, 65, 66, 67, 68, 69, 70, 0, 71, 72, 0, 73, 0, 0, 0, 0, 0, 0, 0, 0, 0, 74, 0, 75, 76, 0, 77, 78, 0, 0, 79]
theorem rc_157 : RLc_156.set 64 (rowS 79 31 (RLc_156.getD 64 [])) = RLc_157 := by rw [show RLc_156.getD 64 [] = [0, 0, 65, 66, 67, 68, 69, 70, 0, 71, 72, 0, 73, 0, 0, 0, 0, 0, 0, 0, 0, 0, 74, 0, 75, 76, 0, 77, 78] by decide +kernel]; rfl
theorem rl_157 : RLc_157.length = 80 := by decide +kernel
def KLc_81 : List (Nat × Nat) := KLc_80 ++ [(2, 7)]
theorem kc_81 : KLc_80 ++ [(2, 7)] = KLc_81 := rfl
theorem kl_81 : KLc_81.length = 81 := by decide +kernel
def RLc_158 : List (List Nat) := RLc_157 ++ [[]]
theorem rc_158 : RLc_157 ++ [[]] = RLc_158 := rfl
theorem rl_158 : RLc_158.length = 81 := by decide +kernel
def Nc_38 : NN := m_up Nc_37 80 0 824370
theorem nc_38 : (m_up Nc_37 80 0 824370 : NN) = Nc_38 := rfl
def Nc_39 : NN := m_up Nc_38 80 1 7847059
theorem nc_39 : (m_up Nc_38 80 1 7847059 : NN) = Nc_39 := rfl
def Nc_40 : NN := m_up Nc_39 80 2 146885
theorem nc_40 : (m_up Nc_39 80 2 146885 : NN) = Nc_40 := rfl
def Nc_41 : NN := m_up Nc_40 80 3 394868
theorem nc_41 : (m_up Nc_40 80 3 394868 : NN) = Nc_41 := rfl
def Nc_42 : NN := m_up Nc_41 80 4 7931182
theorem nc_42 : (m_up Nc_41 80 4 7931182 : NN) = Nc_42 := rfl
def Nc_43 : NN := m_up Nc_42 80 5 284561586
theorem nc_43 : (m_up Nc_42 80 5 284561586 : NN) = Nc_43 := rfl
def Nc_44 : NN := m_up Nc_43 80 6 515236
theorem nc_44 : (m_up Nc_43 80 6 515236 : NN) = Nc_44 := rfl
def RLc_159 : List (List Nat) := RLc_158.set 64 [0, 0, 65, 66, 67, 68, 69, 70, 0, 71, 72, 0, 73, 0, 0, 0, 0, 0, 0, 0, 0, 0, 74, 0, 75, 76, 0, 77, 78, 0, 0, 79, 80]
theorem rc_159 : RLc_158.set 64 (rowS 80 32 (RLc_158.getD 64 [])) = RLc_159 := by rw [show RLc_158.getD 64 [] = [0, 0, 65, 66, 67, 68, 69, 70, 0, 71, 72, 0, 73, 0, 0, 0, 0, 0, 0, 0, 0, 0, 74, 0, 75, 76, 0, 77, 78, 0, 0, 79] by decide +kernel]; rfl
theorem rl_159 : RLc_159.length = 81 := by decide +kernel
def KLc_82 : List (Nat × Nat) := KLc_81 ++ [(2, 13)]
theorem kc_82 : KLc_81 ++ [(2, 13)] = KLc_82 := rfl
theorem kl_82 : KLc_82.length = 82 := by decide +kernel
def RLc_160 : List (List Nat) := RLc_159 ++ [[]]
theorem rc_160 : RLc_159 ++ [[]] = RLc_160 := rfl
theorem rl_160 : RLc_160.length = 82 := by decide +kernel
def RLc_161 : List (List Nat) := RLc_160.set 64 [0, 0, 65, 66, 67, 68, 69, 70, 0, 71, 72, 0, 73, 0, 0, 0, 0, 0, 0, 0, 0, 0, 74, 0, 75, 76, 0, 77, 78, 0, 0, 79, 80, 0, 81]
theorem rc_161 : RLc_160.set 64 (rowS 81 34 (RLc_160.getD 64 [])) = RLc_161 := by rw [show RLc_160.getD 64 [] = [0, 0, 65, 66, 67, 68, 69, 70, 0, 71, 72, 0, 73, 0, 0, 0, 0, 0, 0, 0, 0, 0, 74, 0, 75, 76, 0, 77, 78, 0, 0, 79, 80] by decide +kernel]; rfl
theorem rl_161 : RLc_161.length = 82 := by decide +kernel
def KLc_83 : List (Nat × Nat) := KLc_82 ++ [(2, 13)]
theorem kc_83 : KLc_82 ++ [(2, 13)] = KLc_83 := rfl
theorem kl_83 : KLc_83.length = 83 := by decide +kernel
def RLc_162 : List (List Nat) := RLc_161 ++ [[]]
theorem rc_162 : RLc_161 ++ [[]] = RLc_162 := rfl
theorem rl_162 : RLc_162.length = 83 := by decide +kernel
def RLc_163 : List (List Nat) := RLc_162.set 64 [0, 0, 65, 66, 67, 68, 69, 70, 0, 71, 72, 0, 73, 0, 0, 0, 0, 0, 0, 0, 0, 0, 74, 0, 75, 76, 0, 77, 78, 0, 0, 79, 80, 0, 81, 82]
theorem rc_163 : RLc_162.set 64 (rowS 82 35 (RLc_162.getD 64 [])) = RLc_163 := by rw [show RLc_162.getD 64 [] = [0, 0, 65, 66, 67, 68, 69, 70, 0, 71, 72, 0, 73, 0, 0, 0, 0, 0, 0, 0, 0, 0, 74, 0, 75, 76, 0, 77, 78, 0, 0, 79, 80, 0, 81] by decide +kernel]; rfl
theorem rl_163 : RLc_163.length = 83 := by decide +kernel
def KLc_84 : List (Nat × Nat) := KLc_83 ++ [(2, 400)]
theorem kc_84 : KLc_83 ++ [(2, 400)] = KLc_84 := rfl
theorem kl_84 : KLc_84.length = 84 := by decide +kernel
def RLc_164 : List (List Nat) := RLc_163 ++ [[]]
theorem rc_164 : RLc_163 ++ [[]] = RLc_164 := rfl
theorem rl_164 : RLc_164.length = 84 := by decide +kernel
def RLc_165 : List (List Nat) := RLc_164.set 64 [0, 0, 65, 66, 67, 68, 69, 70, 0, 71, 72, 0, 73, 0, 0, 0, 0, 0, 0, 0, 0, 0, 74, 0, 75, 76, 0, 77, 78, 0, 0, 79, 80, 0, 81, 82, 83]
theorem rc_165 : RLc_164.set 64 (rowS 83 36 (RLc_164.getD 64 [])) = RLc_165 := by rw [show RLc_164.getD 64 [] = [0, 0, 65, 66, 67, 68, 69, 70, 0, 71, 72, 0, 73, 0, 0, 0, 0, 0, 0, 0, 0, 0, 74, 0, 75, 76, 0, 77, 78, 0, 0, 79, 80, 0, 81, 82] by decide +kernel]; rfl
theorem rl_165 : RLc_165.length = 84 := by decide +kernel
def KLc_85 : List (Nat × Nat) := KLc_84 ++ [(1, 12)]
theorem kc_85 : KLc_84 ++ [(1, 12)] = KLc_85 := rfl
theorem kl_85 : KLc_85.length = 85 := by decide +kernel
def RLc_166 : List (List Nat) := RLc_165 ++ [[]]
theorem rc_166 : RLc_165 ++ [[]] = RLc_166 := rfl
theorem rl_166 : RLc_166.length = 85 := by decide +kernel
def RLc_167 : List (List Nat) := RLc_166.set 64 [0, 0, 65, 66, 67, 68, 69, 70, 0, 71, 72, 0, 73, 0, 0, 0, 0, 0, 0, 0, 0, 0, 74, 0, 75, 76, 0, 77, 78, 0, 0, 79, 80, 0, 81, 82, 83, 0, 0, 0, 0, 84]
theorem rc_167 : RLc_166.set 64 (rowS 84 41 (RLc_166.getD 64 [])) = RLc_167 := by rw [show RLc_166.getD 64 [] = [0, 0, 65, 66, 67, 68, 69, 70, 0, 71, 72, 0, 73, 0, 0, 0, 0, 0, 0, 0, 0, 0, 74, 0, 75, 76, 0, 77, 78, 0, 0, 79, 80, 0, 81, 82, 83] by decide +kernel]; rfl
theorem rl_167 : RLc_167.length = 85 := by decide +kernel
def KLc_86 : List (Nat × Nat) := KLc_85 ++ [(1, 12)]
theorem kc_86 : KLc_85 ++ [(1, 12)] = KLc_86 := rfl
theorem kl_86 : KLc_86.length = 86 := by decide +kernel
def RLc_168 : List (List Nat) := RLc_167 ++ [[]]
theorem rc_168 : RLc_167 ++ [[]] = RLc_168 := rfl
theorem rl_168 : RLc_168.length = 86 := by decide +kernel
def RLc_169 : List (List Nat) := RLc_168.set 64 [0, 0, 65, 66, 67, 68, 69, 70, 0, 71, 72, 0, 73, 0, 0, 0, 0, 0, 0, 0, 0, 0, 74, 0, 75, 76, 0, 77, 78, 0, 0, 79, 80, 0, 81, 82, 83, 0, 0, 0, 0, 84, 85]
theorem rc_169 : RLc_168.set 64 (rowS 85 42 (RLc_168.getD 64 [])) = RLc_169 := by rw [show RLc_168.getD 64 [] = [0, 0, 65, 66, 67, 68, 69, 70, 0, 71, 72, 0, 73, 0, 0, 0, 0, 0, 0, 0, 0, 0, 74, 0, 75, 76, 0, 77, 78, 0, 0, 79, 80, 0, 81, 82, 83, 0, 0, 0, 0, 84] by decide +kernel]; rfl
theorem rl_169 : RLc_169.length = 86 := by decide +kernel
def KLc_87 : List (Nat × Nat) := KLc_86 ++ [(1, 12)]
theorem kc_87 : KLc_86 ++ [(1, 12)] = KLc_87 := rfl
theorem kl_87 : KLc_87.length = 87 := by decide +kernel
def RLc_170 : List (List Nat) := RLc_169 ++ [[]]
theorem rc_170 : RLc_169 ++ [[]] = RLc_170 := rfl
theorem rl_170 : RLc_170.length = 87 := by decide +kernel
def RLc_171 : List (List Nat) := RLc_170.set 64 [0, 0, 65, 66, 67, 68, 69, 70, 0, 71, 72, 0, 73, 0, 0, 0, 0, 0, 0, 0, 0, 0, 74, 0, 75, 76, 0, 77, 78, 0, 0, 79, 80, 0, 81, 82, 83, 0, 0, 0, 0, 84, 85, 86]
theorem rc_171 : RLc_170.set 64 (rowS 86 43 (RLc_170.getD 64 [])) = RLc_171 := by rw [show RLc_170.getD 64 [] = [0, 0, 65, 66, 67, 68, 69, 70, 0, 71, 72, 0, 73, 0, 0, 0, 0, 0, 0, 0, 0, 0, 74, 0, 75, 76, 0, 77, 78, 0, 0, 79, 80, 0, 81, 82, 83, 0, 0, 0, 0, 84, 85] by decide +kernel]; rfl
theorem rl_171 : RLc_171.length = 87 := by decide +kernel
def KLc_88 : List (Nat × Nat) := KLc_87 ++ [(3, 4096)]
theorem kc_88 : KLc_87 ++ [(3, 4096)] = KLc_88 := rfl
theorem kl_88 : KLc_88.length = 88 := by decide +kernel
def RLc_172 : List (List Nat) := RLc_171 ++ [[]]
theorem rc_172 : RLc_171 ++ [[]] = RLc_172 := rfl
theorem rl_172 : RLc_172.length = 88 := by decide +kernel
def RLc_173 : List (List Nat) := RLc_172.set 64 [0, 0, 65, 66, 67, 68, 69, 70, 0, 71, 72, 0, 73, 0, 0, 0, 0, 0, 0, 0, 0, 0, 74, 0, 75, 76, 0, 77, 78, 0, 0, 79, 80, 0, 81, 82, 83, 0, 0, 0, 0, 84, 85, 86, 87]
theorem rc_173 : RLc_172.set 64 (rowS 87 44 (RLc_172.getD 64 [])) = RLc_173 := by rw [show RLc_172.getD 64 [] = [0, 0, 65, 66, 67, 68, 69, 70, 0, 71, 72, 0, 73, 0, 0, 0, 0, 0, 0, 0, 0, 0, 74, 0, 75, 76, 0, 77, 78, 0, 0, 79, 80, 0, 81, 82, 83, 0, 0, 0, 0, 84, 85, 86] by decide +kernel]; rfl
theorem rl_173 : RLc_173.length = 88 := by decide +kernel
def KLc_89 : List (Nat × Nat) := KLc_88 ++ [(1, 2)]
theorem kc_89 : KLc_88 ++ [(1, 2)] = KLc_89 := rfl
theorem kl_89 : KLc_89.length = 89 := by decide +kernel
def RLc_174 : List (List Nat) := RLc_173 ++ [[]]
theorem rc_174 : RLc_173 ++ [[]] = RLc_174 := rfl
theorem rl_174 : RLc_174.length = 89 := by decide +kernel
def RLc_175 : List (List Nat) := RLc_174.set 64 [0, 0, 65, 66, 67, 68, 69, 70, 0, 71, 72, 0, 73, 0, 0, 0, 0, 0, 0, 0, 0, 0, 74, 0, 75, 76, 0, 77, 78, 0, 0, 79, 80, 0, 81, 82, 83, 0, 0, 0, 0, 84, 85, 86, 87, 88]
theorem rc_175 : RLc_174.set 64 (rowS 88 45 (RLc_174.getD 64 [])) = RLc_175 := by rw [show RLc_174.getD 64 [] = [0, 0, 65, 66, 67, 68, 69, 70, 0, 71, 72, 0, 73, 0, 0, 0, 0, 0, 0, 0, 0, 0, 74, 0, 75, 76, 0, 77, 78, 0, 0, 79, 80, 0, 81, 82, 83, 0, 0, 0, 0, 84, 85, 86, 87] by decide +kernel]; rfl
theorem rl_175 : RLc_175.length = 89 := by decide +kernel
def KLc_90 : List (Nat × Nat) := KLc_89 ++ [(1, 100)]
theorem kc_90 : KLc_89 ++ [(1, 100)] = KLc_90 := rfl
theorem kl_90 : KLc_90.length = 90 := by decide +kernel
def RLc_176 : List (List Nat) := RLc_175 ++ [[]]
theorem rc_176 : RLc_175 ++ [[]] = RLc_176 := rfl
theorem rl_176 : RLc_176.length = 90 := by decide +kernel
def RLc_177 : List (List Nat) := RLc_176.set 64 [0, 0, 65, 66, 67, 68, 69, 70, 0, 71, 72, 0, 73, 0, 0, 0, 0, 0, 0, 0, 0, 0, 74, 0, 75, 76, 0, 77, 78, 0, 0, 79, 80, 0, 81, 82, 83, 0, 0, 0, 0, 84, 85, 86, 87, 88, 89]
theorem rc_177 : RLc_176.set 64 (rowS 89 46 (RLc_176.getD 64 [])) = RLc_177 := by rw [show RLc_176.getD 64 [] = [0, 0, 65, 66, 67, 68, 69, 70, 0, 71, 72, 0, 73, 0, 0, 0, 0, 0, 0, 0, 0, 0, 74, 0, 75, 76, 0, 77, 78, 0, 0, 79, 80, 0, 81, 82, 83, 0, 0, 0, 0, 84, 85, 86, 87, 88] by decide +kernel]; rfl
theorem rl_177 : RLc_177.length = 90 := by decide +kernel
def KLc_91 : List (Nat × Nat) := KLc_90 ++ [(1, 10)]
theorem kc_91 : KLc_90 ++ [(1, 10)] = KLc_91 := rfl
theorem kl_91 : KLc_91.length = 91 := by decide +kernel
def RLc_178 : List (List Nat) := RLc_177 ++ [[]]
theorem rc_178 : RLc_177 ++ [[]] = RLc_178 := rfl
theorem rl_178 : RLc_178.length = 91 := by decide +kernel
def RLc_179 : List (List Nat) := RLc_178.set 64 [0, 0, 65, 66, 67, 68, 69, 70, 0, 71, 72, 0, 73, 0, 0, 0, 0, 0, 0, 0, 0, 0, 74, 0, 75, 76, 0, 77, 78, 0, 0, 79, 80, 0, 81, 82, 83, 0, 0, 0, 0, 84, 85, 86, 87, 88, 89, 90]
theorem rc_179 : RLc_178.set 64 (rowS 90 47 (RLc_178.getD 64 [])) = RLc_179 := by rw [show RLc_178.getD 64 [] = [0, 0, 65, 66, 67, 68, 69, 70, 0, 71, 72, 0, 73, 0, 0, 0, 0, 0, 0, 0, 0, 0, 74, 0, 75, 76, 0, 77, 78, 0, 0, 79, 80, 0, 81, 82, 83, 0, 0, 0, 0, 84, 85, 86, 87, 88, 89] by decide +kernel]; rfl
theorem rl_179 : RLc_179.length = 91 := by decide +kernel
def KLc_92 : List (Nat × Nat) := KLc_91 ++ [(1, 90)]
theorem kc_92 : KLc_91 ++ [(1, 90)] = KLc_92 := rfl
theorem kl_92 : KLc_92.length = 92 := by decide +kernel
def RLc_180 : List (List Nat) := RLc_179 ++ [[]]
theorem rc_180 : RLc_179 ++ [[]] = RLc_180 := rfl
theorem rl_180 : RLc_180.length = 92 := by decide +kernel
def RLc_181 : List (List Nat) := RLc_180.set 64 [0, 0, 65, 66, 67, 68, 69, 70, 0, 71, 72, 0, 73, 0, 0, 0, 0, 0, 0, 0, 0, 0, 74, 0, 75, 76, 0, 77, 78, 0, 0, 79, 80, 0, 81, 82, 83, 0, 0, 0, 0, 84, 85, 86, 87, 88, 89, 90, 91]
theorem rc_181 : RLc_180.set 64 (rowS 91 48 (RLc_180.getD 64 [])) = RLc_181 := by rw [show RLc_180.getD 64 [] = [0, 0, 65, 66, 67, 68, 69, 70, 0, 71, 72, 0, 73, 0, 0, 0, 0, 0, 0, 0, 0, 0, 74, 0, 75, 76, 0, 77, 78, 0, 0, 79, 80, 0, 81, 82, 83, 0, 0, 0, 0, 84, 85, 86, 87, 88, 89, 90] by decide +kernel]; rfl
theorem rl_181 : RLc_181.length = 92 := by decide +kernel
def KLc_93 : List (Nat × Nat) := KLc_92 ++ [(1, 5)]
theorem kc_93 : KLc_92 ++ [(1, 5)] = KLc_93 := rfl
theorem kl_93 : KLc_93.length = 93 := by decide +kernel
def RLc_182 : List (List Nat) := RLc_181 ++ [[]]
theorem rc_182 : RLc_181 ++ [[]] = RLc_182 := rfl
theorem rl_182 : RLc_182.length = 93 := by decide +kernel
def RLc_183 : List (List Nat) := RLc_182.set 64 [0, 0, 65, 66, 67, 68, 69, 70, 0, 71, 72, 0, 73, 0, 0, 0, 0, 0, 0, 0, 0, 0, 74, 0, 75, 76, 0, 77, 78, 0, 0, 79, 80, 0, 81, 82, 83, 0, 0, 0, 0, 84, 85, 86, 87, 88, 89, 90, 91, 92]
theorem rc_183 : RLc_182.set 64 (rowS 92 49 (RLc_182.getD 64 [])) = RLc_183 := by rw [show RLc_182.getD 64 [] = [0, 0, 65, 66, 67, 68, 69, 70, 0, 71, 72, 0, 73, 0, 0, 0, 0, 0, 0, 0, 0, 0, 74, 0, 75, 76, 0, 77, 78, 0, 0, 79, 80, 0, 81, 82, 83, 0, 0, 0, 0, 84, 85, 86, 87, 88, 89, 90, 91] by decide +kernel]; rfl
theorem rl_183 : RLc_183.length = 93 := by decide +kernel
def KLc_94 : List (Nat × Nat) := KLc_93 ++ [(1, 6)]
theorem kc_94 : KLc_93 ++ [(1, 6)] = KLc_94 := rfl
theorem kl_94 : KLc_94.length = 94 := by decide +kernel
def RLc_184 : List (List Nat) := RLc_183 ++ [[]]
theorem rc_184 : RLc_183 ++ [[]] = RLc_184 := rfl
theorem rl_184 : RLc_184.length = 94 := by decide +kernel
def RLc_185 : List (List Nat) := RLc_184.set 64 [0, 0, 65, 66, 67, 68, 69, 70, 0, 71, 72, 0, 73, 0, 0, 0, 0, 0, 0, 0, 0, 0, 74, 0, 75, 76, 0, 77, 78, 0, 0, 79, 80, 0, 81, 82, 83, 0, 0, 0, 0, 84, 85, 86, 87, 88, 89, 90, 91, 92, 93]
theorem rc_185 : RLc_184.set 64 (rowS 93 50 (RLc_184.getD 64 [])) = RLc_185 := by rw [show RLc_184.getD 64 [] = [0, 0, 65, 66, 67, 68, 69, 70, 0, 71, 72, 0, 73, 0, 0, 0, 0, 0, 0, 0, 0, 0, 74, 0, 75, 76, 0, 77, 78, 0, 0, 79, 80, 0, 81, 82, 83, 0, 0, 0, 0, 84, 85, 86, 87, 88, 89, 90, 91, 92] by decide +kernel]; rfl
theorem rl_185 : RLc_185.length = 94 := by decide +kernel
def KLc_95 : List (Nat × Nat) := KLc_94 ++ [(1, 6)]
theorem kc_95 : KLc_94 ++ [(1, 6)] = KLc_95 := rfl
theorem kl_95 : KLc_95.length = 95 := by decide +kernel
def RLc_186 : List (List Nat) := RLc_185 ++ [[]]
theorem rc_186 : RLc_185 ++ [[]] = RLc_186 := rfl
theorem rl_186 : RLc_186.length = 95 := by decide +kernel
def RLc_187 : List (List Nat) := RLc_186.set 64 [0, 0, 65, 66, 67, 68, 69, 70, 0, 71, 72, 0, 73, 0, 0, 0, 0, 0, 0, 0, 0, 0, 74, 0, 75, 76, 0, 77, 78, 0, 0, 79, 80, 0, 81, 82, 83, 0, 0, 0, 0, 84, 85, 86, 87, 88, 89, 90, 91, 92, 93, 94]
theorem rc_187 : RLc_186.set 64 (rowS 94 51 (RLc_186.getD 64 [])) = RLc_187 := by rw [show RLc_186.getD 64 [] = [0, 0, 65, 66, 67, 68, 69, 70, 0, 71, 72, 0, 73, 0, 0, 0, 0, 0, 0, 0, 0, 0, 74, 0, 75, 76, 0, 77, 78, 0, 0, 79, 80, 0, 81, 82, 83, 0, 0, 0, 0, 84, 85, 86, 87, 88, 89, 90, 91, 92, 93] by decide +kernel]; rfl
theorem rl_187 : RLc_187.length = 95 := by decide +kernel
def KLc_96 : List (Nat × Nat) := KLc_95 ++ [(1, 6)]
theorem kc_96 : KLc_95 ++ [(1, 6)] = KLc_96 := rfl
theorem kl_96 : KLc_96.length = 96 := by decide +kernel
def RLc_188 : List (List Nat) := RLc_187 ++ [[]]
theorem rc_188 : RLc_187 ++ [[]] = RLc_188 := rfl
theorem rl_188 : RLc_188.length = 96 := by decide +kernel
def RLc_189 : List (List Nat) := RLc_188.set 64 [0, 0, 65, 66, 67, 68, 69, 70, 0, 71, 72, 0, 73, 0, 0, 0, 0, 0, 0, 0, 0, 0, 74, 0, 75, 76, 0, 77, 78, 0, 0, 79, 80, 0, 81, 82, 83, 0, 0, 0, 0, 84, 85, 86, 87, 88, 89, 90, 91, 92, 93, 94, 95]
theorem rc_189 : RLc_188.set 64 (rowS 95 52 (RLc_188.getD 64 [])) = RLc_189 := by rw [show RLc_188.getD 64 [] = [0, 0, 65, 66, 67, 68, 69, 70, 0, 71, 72, 0, 73, 0, 0, 0, 0, 0, 0, 0, 0, 0, 74, 0, 75, 76, 0, 77, 78, 0, 0, 79, 80, 0, 81, 82, 83, 0, 0, 0, 0, 84, 85, 86, 87, 88, 89, 90, 91, 92, 93, 94] by decide +kernel]; rfl
theorem rl_189 : RLc_189.length = 96 := by decide +kernel
def KLc_97 : List (Nat × Nat) := KLc_96 ++ [(1, 6)]
theorem kc_97 : KLc_96 ++ [(1, 6)] = KLc_97 := rfl
theorem kl_97 : KLc_97.length = 97 := by decide +kernel
def RLc_190 : List (List Nat) := RLc_189 ++ [[]]
theorem rc_190 : RLc_189 ++ [[]] = RLc_190 := rfl
theorem rl_190 : RLc_190.length = 97 := by decide +kernel
def RLc_191 : List (List Nat) := RLc_190.set 64 [0, 0, 65, 66, 67, 68, 69, 70, 0, 71, 72, 0, 73, 0, 0, 0, 0, 0, 0, 0, 0, 0, 74, 0, 75, 76, 0, 77, 78, 0, 0, 79, 80, 0, 81, 82, 83, 0, 0, 0, 0, 84, 85, 86, 87, 88, 89, 90, 91, 92, 93, 94, 95, 0, 0, 0, 0, 0, 96]
theorem rc_191 : RLc_190.set 64 (rowS 96 58 (RLc_190.getD 64 [])) = RLc_191 := by rw [show RLc_190.getD 64 [] = [0, 0, 65, 66, 67, 68, 69, 70, 0, 71, 72, 0, 73, 0, 0, 0, 0, 0, 0, 0, 0, 0, 74, 0, 75, 76, 0, 77, 78, 0, 0, 79, 80, 0, 81, 82, 83, 0, 0, 0, 0, 84, 85, 86, 87, 88, 89, 90, 91, 92, 93, 94, 95] by decide +kernel]; rfl
theorem rl_191 : RLc_191.length = 97 := by decide +kernel
def KLc_98 : List (Nat × Nat) := KLc_97 ++ [(3, 576)]
theorem kc_98 : KLc_97 ++ [(3, 576)] = KLc_98 := rfl
theorem kl_98 : KLc_98.length = 98 := by decide +kernel
def RLc_192 : List (List Nat) := RLc_191 ++ [[]]
theorem rc_192 : RLc_191 ++ [[]] = RLc_192 := rfl
theorem rl_192 : RLc_192.length = 98 := by decide +kernel
def RLc_193 : List (List Nat) := RLc_192.set 64 [0, 0, 65, 66, 67, 68, 69, 70, 0, 71, 72, 0, 73, 0, 0, 0, 0, 0, 0, 0, 0, 0, 74, 0, 75, 76, 0, 77, 78, 0, 0, 79, 80, 0, 81, 82, 83, 0, 0, 0, 0, 84, 85, 86, 87, 88, 89, 90, 91, 92, 93, 94, 95, 0, 0, 0, 0, 0, 96, 97]
theorem rc_193 : RLc_192.set 64 (rowS 97 59 (RLc_192.getD 64 [])) = RLc_193 := by rw [show RLc_192.getD 64 [] = [0, 0, 65, 66, 67, 68, 69, 70, 0, 71, 72, 0, 73, 0, 0, 0, 0, 0, 0, 0, 0, 0, 74, 0, 75, 76, 0, 77, 78, 0, 0, 79, 80, 0, 81, 82, 83, 0, 0, 0, 0, 84, 85, 86, 87, 88, 89, 90, 91, 92, 93, 94, 95, 0, 0, 0, 0, 0, 96] by decide +kernel]; rfl
theorem rl_193 : RLc_193.length = 98 := by decide +kernel
def KLc_99 : List (Nat × Nat) := KLc_98 ++ [(1, 16)]
theorem kc_99 : KLc_98 ++ [(1, 16)] = KLc_99 := rfl
theorem kl_99 : KLc_99.length = 99 := by decide +kernel
def RLc_194 : List (List Nat) := RLc_193 ++ [[]]
theorem rc_194 : RLc_193 ++ [[]] = RLc_194 := rfl
theorem rl_194 : RLc_194.length = 99 := by decide +kernel
def RLc_195 : List (List Nat) := RLc_194.set 64 [0, 0, 65, 66, 67, 68, 69, 70, 0, 71, 72, 0, 73, 0, 0, 0, 0, 0, 0, 0, 0, 0, 74, 0, 75, 76, 0, 77, 78, 0, 0, 79, 80, 0, 81, 82, 83, 0, 0, 0, 0, 84, 85, 86, 87, 88, 89, 90, 91, 92, 93, 94, 95, 0, 0, 0, 0, 0, 96, 97, 98]
theorem rc_195 : RLc_194.set 64 (rowS 98 60 (RLc_194.getD 64 [])) = RLc_195 := by rw [show RLc_194.getD 64 [] = [0, 0, 65, 66, 67, 68, 69, 70, 0, 71, 72, 0, 73, 0, 0, 0, 0, 0, 0, 0, 0, 0, 74, 0, 75, 76, 0, 77, 78, 0, 0, 79, 80, 0, 81, 82, 83, 0, 0, 0, 0, 84, 85, 86, 87, 88, 89, 90, 91, 92, 93, 94, 95, 0, 0, 0, 0, 0, 96, 97] by decide +kernel]; rfl
theorem rl_195 : RLc_195.length = 99 := by decide +kernel
def KLc_100 : List (Nat × Nat) := KLc_99 ++ [(1, 3)]
theorem kc_100 : KLc_99 ++ [(1, 3)] = KLc_100 := rfl
theorem kl_100 : KLc_100.length = 100 := by decide +kernel
def RLc_196 : List (List Nat) := RLc_195 ++ [[]]
theorem rc_196 : RLc_195 ++ [[]] = RLc_196 := rfl
theorem rl_196 : RLc_196.length = 100 := by decide +kernel
def RLc_197 : List (List Nat) := RLc_196.set 64 [0, 0, 65, 66, 67, 68, 69, 70, 0, 71, 72, 0, 73, 0, 0, 0, 0, 0, 0, 0, 0, 0, 74, 0, 75, 76, 0, 77, 78, 0, 0, 79, 80, 0, 81, 82, 83, 0, 0, 0, 0, 84, 85, 86, 87, 88, 89, 90, 91, 92, 93, 94, 95, 0, 0, 0, 0, 0, 96, 97, 98, 99]
theorem rc_197 : RLc_196.set 64 (rowS 99 61 (RLc_196.getD 64 [])) = RLc_197 := by rw [show RLc_196.getD 64 [] = [0, 0, 65, 66, 67, 68, 69, 70, 0, 71, 72, 0, 73, 0, 0, 0, 0, 0, 0, 0, 0, 0, 74, 0, 75, 76, 0, 77, 78, 0, 0, 79, 80, 0, 81, 82, 83, 0, 0, 0, 0, 84, 85, 86, 87, 88, 89, 90, 91, 92, 93, 94, 95, 0, 0, 0, 0, 0, 96, 97, 98] by decide +kernel]; rfl
theorem rl_197 : RLc_197.length = 100 := by decide +kernel
def KLc_101 : List (Nat × Nat) := KLc_100 ++ [(1, 3)]
theorem kc_101 : KLc_100 ++ [(1, 3)] = KLc_101 := rfl
theorem kl_101 : KLc_101.length = 101 := by decide +kernel
def RLc_198 : List (List Nat) := RLc_197 ++ [[]]
theorem rc_198 : RLc_197 ++ [[]] = RLc_198 := rfl
theorem rl_198 : RLc_198.length = 101 := by decide +kernel
def RLc_199 : List (List Nat) := RLc_198.set 64 [0, 0, 65, 66, 67, 68, 69, 70, 0, 71, 72, 0, 73, 0, 0, 0, 0, 0, 0, 0, 0, 0, 74, 0, 75, 76, 0, 77, 78, 0, 0, 79, 80, 0, 81, 82, 83, 0, 0, 0, 0, 84, 85, 86, 87, 88, 89, 90, 91, 92, 93, 94, 95, 0, 0, 0, 0, 0, 96, 97, 98, 99, 100]
theorem rc_199 : RLc_198.set 64 (rowS 100 62 (RLc_198.getD 64 [])) = RLc_199 := by rw [show RLc_198.getD 64 [] = [0, 0, 65, 66, 67, 68, 69, 70, 0, 71, 72, 0, 73, 0, 0, 0, 0, 0, 0, 0, 0, 0, 74, 0, 75, 76, 0, 77, 78, 0, 0, 79, 80, 0, 81, 82, 83, 0, 0, 0, 0, 84, 85, 86, 87, 88, 89, 90, 91, 92, 93, 94, 95, 0, 0, 0, 0, 0, 96, 97, 98, 99] by decide +kernel]; rfl
theorem rl_199 : RLc_199.length = 101 := by decide +kernel
def KLc_102 : List (Nat × Nat) := KLc_101 ++ [(1, 3)]
theorem kc_102 : KLc_101 ++ [(1, 3)] = KLc_102 := rfl
theorem kl_102 : KLc_102.length = 102 := by decide +kernel
def RLc_200 : List (List Nat) := RLc_199 ++ [[]]
theorem rc_200 : RLc_199 ++ [[]] = RLc_200 := rfl
theorem rl_200 : RLc_200.length = 102 := by decide +kernel
def RLc_201 : List (List Nat) := RLc_200.set 64 [0, 0, 65, 66, 67, 68, 69, 70, 0, 71, 72, 0, 73, 0, 0, 0, 0, 0, 0, 0, 0, 0, 74, 0, 75, 76, 0, 77, 78, 0, 0, 79, 80, 0, 81, 82, 83, 0, 0, 0, 0, 84, 85, 86, 87, 88, 89, 90, 91, 92, 93, 94, 95, 0, 0, 0, 0, 0, 96, 97, 98, 99, 100, 101]
theorem rc_201 : RLc_200.set 64 (rowS 101 63 (RLc_200.getD 64 [])) = RLc_201 := by rw [show RLc_200.getD 64 [] = [0, 0, 65, 66, 67, 68, 69, 70, 0, 71, 72, 0, 73, 0, 0, 0, 0, 0, 0, 0, 0, 0, 74, 0, 75, 76, 0, 77, 78, 0, 0, 79, 80, 0, 81, 82, 83, 0, 0, 0, 0, 84, 85, 86, 87, 88, 89, 90, 91, 92, 93, 94, 95, 0, 0, 0, 0, 0, 96, 97, 98, 99, 100] by decide +kernel]; rfl
theorem rl_201 : RLc_201.length = 102 := by decide +kernel
def KLc_103 : List (Nat × Nat) := KLc_102 ++ [(1, 96)]
theorem kc_103 : KLc_102 ++ [(1, 96)] = KLc_103 := rfl
theorem kl_103 : KLc_103.length = 103 := by decide +kernel
def RLc_202 : List (List Nat) := RLc_201 ++ [[]]
theorem rc_202 : RLc_201 ++ [[]] = RLc_202 := rfl
theorem rl_202 : RLc_202.length = 103 := by decide +kernel
def RLc_203 : List (List Nat) := RLc_202.set 64 [0, 0, 65, 66, 67, 68, 69, 70, 0, 71, 72, 0, 73, 0, 0, 0, 0, 0, 0, 0, 0, 0, 74, 0, 75, 76, 0, 77, 78, 0, 0, 79, 80, 0, 81, 82, 83, 0, 0, 0, 0, 84, 85, 86, 87, 88, 89, 90, 91, 92, 93, 94, 95, 0, 0, 0, 0, 0, 96, 97, 98, 99, 100, 101, 0, 102]
theorem rc_203 : RLc_202.set 64 (rowS 102 65 (RLc_202.getD 64 [])) = RLc_203 := by rw [show RLc_202.getD 64 [] = [0, 0, 65, 66, 67, 68, 69, 70, 0, 71, 72, 0, 73, 0, 0, 0, 0, 0, 0, 0, 0, 0, 74, 0, 75, 76, 0, 77, 78, 0, 0, 79, 80, 0, 81, 82, 83, 0, 0, 0, 0, 84, 85, 86, 87, 88, 89, 90, 91, 92, 93, 94, 95, 0, 0, 0, 0, 0, 96, 97, 98, 99, 100, 101] by decide +kernel]; rfl
theorem rl_203 : RLc_203.length = 103 := by decide +kernel
def Nc_45 : NN := m_up Nc_44 64 68 (-1)
theorem nc_45 : (m_up Nc_44 64 68 (-1) : NN) = Nc_45 := rfl
def KLc_104 : List (Nat × Nat) := KLc_103 ++ [(1, 42)]
theorem kc_104 : KLc_103 ++ [(1, 42)] = KLc_104 := rfl
theorem kl_104 : KLc_104.length = 104 := by decide +kernel
def RLc_204 : List (List Nat) := RLc_203 ++ [[]]
theorem rc_204 : RLc_203 ++ [[]] = RLc_204 := rfl
theorem rl_204 : RLc_204.length = 104 := by decide +kernel
def RLc_205 : List (List Nat) := RLc_204.set 64 [0, 0, 65, 66, 67, 68, 69, 70, 0, 71, 72, 0, 73, 0, 0, 0, 0, 0, 0, 0, 0, 0, 74, 0, 75, 76, 0, 77, 78, 0, 0, 79, 80, 0, 81, 82, 83, 0, 0, 0, 0, 84, 85, 86, 87, 88, 89, 90, 91, 92, 93, 94, 95, 0, 0, 0, 0, 0, 96, 97, 98, 99, 100, 101, 0, 102, 0, 0, 0, 0, 0, 103]
theorem rc_205 : RLc_204.set 64 (rowS 103 71 (RLc_204.getD 64 [])) = RLc_205 := by rw [show RLc_204.getD 64 [] = [0, 0, 65, 66, 67, 68, 69, 70, 0, 71, 72, 0, 73, 0, 0, 0, 0, 0, 0, 0, 0, 0, 74, 0, 75, 76, 0, 77, 78, 0, 0, 79, 80, 0, 81, 82, 83, 0, 0, 0, 0, 84, 85, 86, 87, 88, 89, 90, 91, 92, 93, 94, 95, 0, 0, 0, 0, 0, 96, 97, 98, 99, 100, 101, 0, 102] by decide +kernel]; rfl
theorem rl_205 : RLc_205.length = 104 := by decide +kernel
def Nc_46 : NN := m_up Nc_45 66 5 (-1)
theorem nc_46 : (m_up Nc_45 66 5 (-1) : NN) = Nc_46 := rfl
def Nc_47 : NN := m_up Nc_46 66 7 1
theorem nc_47 : (m_up Nc_46 66 7 1 : NN) = Nc_47 := rfl
def Nc_48 : NN := fun a b => if a = 66 then (if 141 ≤ b ∧ b < 141 + 2 * 36 ∧ (b - 141) % 2 = 0 then -1 else Nc_47 a b) else Nc_47 a b
theorem nc_48 : (fun a b => if a = 66 then (if 141 ≤ b ∧ b < 141 + 2 * 36 ∧ (b - 141) % 2 = 0 then -1 else Nc_47 a b) else Nc_47 a b : NN) = Nc_48 := rfl
