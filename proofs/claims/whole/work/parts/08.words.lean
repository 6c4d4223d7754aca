theorem tm_all {w : Cond} (h : w ∈ tables_1) : w ∈ lw_tbl := List.mem_append_right _ h
theorem tm1 {w : Cond} (i : Nat) (hi : tables_1_1[i]? = some w) : w ∈ lw_tbl := by
  have h := List.mem_of_getElem? hi
  exact tm_all (show w ∈ tables_1 from (List.mem_append_left _ h))
theorem tm2 {w : Cond} (i : Nat) (hi : tables_1_2[i]? = some w) : w ∈ lw_tbl := by
  have h := List.mem_of_getElem? hi
  exact tm_all (show w ∈ tables_1 from (List.mem_append_right _ (List.mem_append_left _ h)))
theorem tm3 {w : Cond} (i : Nat) (hi : tables_1_3[i]? = some w) : w ∈ lw_tbl := by
  have h := List.mem_of_getElem? hi
  exact tm_all (show w ∈ tables_1 from (List.mem_append_right _ (List.mem_append_right _ (List.mem_append_left _ h))))
theorem tm4 {w : Cond} (i : Nat) (hi : tables_1_4[i]? = some w) : w ∈ lw_tbl := by
  have h := List.mem_of_getElem? hi
  exact tm_all (show w ∈ tables_1 from (List.mem_append_right _ (List.mem_append_right _ (List.mem_append_right _ (List.mem_append_left _ h)))))
theorem tm5 {w : Cond} (i : Nat) (hi : tables_1_5[i]? = some w) : w ∈ lw_tbl := by
  have h := List.mem_of_getElem? hi
  exact tm_all (show w ∈ tables_1 from (List.mem_append_right _ (List.mem_append_right _ (List.mem_append_right _ (List.mem_append_right _ (List.mem_append_left _ h))))))
theorem tm6 {w : Cond} (i : Nat) (hi : tables_1_6[i]? = some w) : w ∈ lw_tbl := by
  have h := List.mem_of_getElem? hi
  exact tm_all (show w ∈ tables_1 from (List.mem_append_right _ (List.mem_append_right _ (List.mem_append_right _ (List.mem_append_right _ (List.mem_append_right _ (List.mem_append_left _ h)))))))
theorem tm7 {w : Cond} (i : Nat) (hi : tables_1_7[i]? = some w) : w ∈ lw_tbl := by
  have h := List.mem_of_getElem? hi
  exact tm_all (show w ∈ tables_1 from (List.mem_append_right _ (List.mem_append_right _ (List.mem_append_right _ (List.mem_append_right _ (List.mem_append_right _ (List.mem_append_right _ (List.mem_append_left _ h))))))))
theorem tm8 {w : Cond} (i : Nat) (hi : tables_1_8[i]? = some w) : w ∈ lw_tbl := by
  have h := List.mem_of_getElem? hi
  exact tm_all (show w ∈ tables_1 from (List.mem_append_right _ (List.mem_append_right _ (List.mem_append_right _ (List.mem_append_right _ (List.mem_append_right _ (List.mem_append_right _ (List.mem_append_right _ (List.mem_append_left _ h)))))))))
theorem tm9 {w : Cond} (i : Nat) (hi : tables_1_9[i]? = some w) : w ∈ lw_tbl := by
  have h := List.mem_of_getElem? hi
  exact tm_all (show w ∈ tables_1 from (List.mem_append_right _ (List.mem_append_right _ (List.mem_append_right _ (List.mem_append_right _ (List.mem_append_right _ (List.mem_append_right _ (List.mem_append_right _ (List.mem_append_right _ h)))))))))
-- lw_tbl: k2_sels lw_privs ++ tables_1
theorem tp1 {q : MethodName × Nat} (i : Nat) (hi : lw_privs_1[i]? = some q) : Cond.selects q.1.cls q.1 q.1 ∈ lw_tbl := by
  have h := List.mem_of_getElem? hi
  exact List.mem_append_left _ (List.mem_map.mpr ⟨q, (show q ∈ lw_privs from (List.mem_append_left _ h)), rfl⟩)
theorem tp2 {q : MethodName × Nat} (i : Nat) (hi : lw_privs_2[i]? = some q) : Cond.selects q.1.cls q.1 q.1 ∈ lw_tbl := by
  have h := List.mem_of_getElem? hi
  exact List.mem_append_left _ (List.mem_map.mpr ⟨q, (show q ∈ lw_privs from (List.mem_append_right _ (List.mem_append_left _ h))), rfl⟩)
theorem tp3 {q : MethodName × Nat} (i : Nat) (hi : lw_privs_3[i]? = some q) : Cond.selects q.1.cls q.1 q.1 ∈ lw_tbl := by
  have h := List.mem_of_getElem? hi
  exact List.mem_append_left _ (List.mem_map.mpr ⟨q, (show q ∈ lw_privs from (List.mem_append_right _ (List.mem_append_right _ (List.mem_append_left _ h)))), rfl⟩)
theorem tp4 {q : MethodName × Nat} (i : Nat) (hi : lw_privs_4[i]? = some q) : Cond.selects q.1.cls q.1 q.1 ∈ lw_tbl := by
  have h := List.mem_of_getElem? hi
  exact List.mem_append_left _ (List.mem_map.mpr ⟨q, (show q ∈ lw_privs from (List.mem_append_right _ (List.mem_append_right _ (List.mem_append_right _ (List.mem_append_left _ h))))), rfl⟩)
theorem tp5 {q : MethodName × Nat} (i : Nat) (hi : lw_privs_5[i]? = some q) : Cond.selects q.1.cls q.1 q.1 ∈ lw_tbl := by
  have h := List.mem_of_getElem? hi
  exact List.mem_append_left _ (List.mem_map.mpr ⟨q, (show q ∈ lw_privs from (List.mem_append_right _ (List.mem_append_right _ (List.mem_append_right _ (List.mem_append_right _ (List.mem_append_left _ h)))))), rfl⟩)
theorem tp6 {q : MethodName × Nat} (i : Nat) (hi : lw_privs_6[i]? = some q) : Cond.selects q.1.cls q.1 q.1 ∈ lw_tbl := by
  have h := List.mem_of_getElem? hi
  exact List.mem_append_left _ (List.mem_map.mpr ⟨q, (show q ∈ lw_privs from (List.mem_append_right _ (List.mem_append_right _ (List.mem_append_right _ (List.mem_append_right _ (List.mem_append_right _ (List.mem_append_left _ h))))))), rfl⟩)
theorem tp7 {q : MethodName × Nat} (i : Nat) (hi : lw_privs_7[i]? = some q) : Cond.selects q.1.cls q.1 q.1 ∈ lw_tbl := by
  have h := List.mem_of_getElem? hi
  exact List.mem_append_left _ (List.mem_map.mpr ⟨q, (show q ∈ lw_privs from (List.mem_append_right _ (List.mem_append_right _ (List.mem_append_right _ (List.mem_append_right _ (List.mem_append_right _ (List.mem_append_right _ (List.mem_append_left _ h)))))))), rfl⟩)
theorem tp8 {q : MethodName × Nat} (i : Nat) (hi : lw_privs_8[i]? = some q) : Cond.selects q.1.cls q.1 q.1 ∈ lw_tbl := by
  have h := List.mem_of_getElem? hi
  exact List.mem_append_left _ (List.mem_map.mpr ⟨q, (show q ∈ lw_privs from (List.mem_append_right _ (List.mem_append_right _ (List.mem_append_right _ (List.mem_append_right _ (List.mem_append_right _ (List.mem_append_right _ (List.mem_append_right _ (List.mem_append_left _ h))))))))), rfl⟩)
theorem tp9 {q : MethodName × Nat} (i : Nat) (hi : lw_privs_9[i]? = some q) : Cond.selects q.1.cls q.1 q.1 ∈ lw_tbl := by
  have h := List.mem_of_getElem? hi
  exact List.mem_append_left _ (List.mem_map.mpr ⟨q, (show q ∈ lw_privs from (List.mem_append_right _ (List.mem_append_right _ (List.mem_append_right _ (List.mem_append_right _ (List.mem_append_right _ (List.mem_append_right _ (List.mem_append_right _ (List.mem_append_right _ h))))))))), rfl⟩)
theorem ly0_0 : u_lay RX0 TX0 0 ∈ GW := GW_mem (tm2 162 (by decide +kernel)) (by decide +kernel)
theorem ly0_1 : u_lay RX0 TX0 1 ∈ GW := GW_mem (tm2 164 (by decide +kernel)) (by decide +kernel)
theorem ly0_2 : u_lay RX0 TX0 2 ∈ GW := GW_mem (tm2 166 (by decide +kernel)) (by decide +kernel)
theorem ly0_3 : u_lay RX0 TX0 3 ∈ GW := GW_mem (tm2 168 (by decide +kernel)) (by decide +kernel)
theorem ly0_4 : u_lay RX0 TX0 4 ∈ GW := GW_mem (tm2 170 (by decide +kernel)) (by decide +kernel)
theorem ly0_5 : u_lay RX0 TX0 5 ∈ GW := GW_mem (tm2 172 (by decide +kernel)) (by decide +kernel)
theorem ly0_6 : u_lay RX0 TX0 6 ∈ GW := GW_mem (tm2 174 (by decide +kernel)) (by decide +kernel)
theorem ck0 : CK 0 RX0 TX0 7 tyX0 := ⟨rfl, by decide, fun w hw => by
  obtain ⟨k, hk, rfl⟩ := List.mem_map.mp hw
  have hk := List.mem_range.mp hk
  match k, hk with
  | 0, _ => exact ly0_0
  | 1, _ => exact ly0_1
  | 2, _ => exact ly0_2
  | 3, _ => exact ly0_3
  | 4, _ => exact ly0_4
  | 5, _ => exact ly0_5
  | 6, _ => exact ly0_6
  | k + 7, hk => exact absurd hk (by omega), tyX0_ok, nmX0⟩
theorem ly1_0 : u_lay RX1 TX1 0 ∈ GW := GW_mem (tm1 112 (by decide +kernel)) (by decide +kernel)
theorem ly1_1 : u_lay RX1 TX1 1 ∈ GW := GW_mem (tm1 114 (by decide +kernel)) (by decide +kernel)
theorem ly1_2 : u_lay RX1 TX1 2 ∈ GW := GW_mem (tm1 116 (by decide +kernel)) (by decide +kernel)
theorem ly1_3 : u_lay RX1 TX1 3 ∈ GW := GW_mem (tm1 118 (by decide +kernel)) (by decide +kernel)
theorem ly1_4 : u_lay RX1 TX1 4 ∈ GW := GW_mem (tm1 120 (by decide +kernel)) (by decide +kernel)
theorem ck1 : CK 1 RX1 TX1 5 tyX1 := ⟨rfl, by decide, fun w hw => by
  obtain ⟨k, hk, rfl⟩ := List.mem_map.mp hw
  have hk := List.mem_range.mp hk
  match k, hk with
  | 0, _ => exact ly1_0
  | 1, _ => exact ly1_1
  | 2, _ => exact ly1_2
  | 3, _ => exact ly1_3
  | 4, _ => exact ly1_4
  | k + 5, hk => exact absurd hk (by omega), tyX1_ok, nmX1⟩
theorem ly2_0 : u_lay RX2 TX2 0 ∈ GW := GW_mem (tm1 193 (by decide +kernel)) (by decide +kernel)
theorem ly2_1 : u_lay RX2 TX2 1 ∈ GW := GW_mem (tm1 195 (by decide +kernel)) (by decide +kernel)
theorem ly2_2 : u_lay RX2 TX2 2 ∈ GW := GW_mem (tm1 197 (by decide +kernel)) (by decide +kernel)
theorem ly2_3 : u_lay RX2 TX2 3 ∈ GW := GW_mem (tm1 199 (by decide +kernel)) (by decide +kernel)
theorem ly2_4 : u_lay RX2 TX2 4 ∈ GW := GW_mem (tm1 201 (by decide +kernel)) (by decide +kernel)
theorem ly2_5 : u_lay RX2 TX2 5 ∈ GW := GW_mem (tm1 203 (by decide +kernel)) (by decide +kernel)
theorem ly2_6 : u_lay RX2 TX2 6 ∈ GW := GW_mem (tm1 205 (by decide +kernel)) (by decide +kernel)
theorem ly2_7 : u_lay RX2 TX2 7 ∈ GW := GW_mem (tm1 207 (by decide +kernel)) (by decide +kernel)
theorem ly2_8 : u_lay RX2 TX2 8 ∈ GW := GW_mem (tm1 209 (by decide +kernel)) (by decide +kernel)
theorem ly2_9 : u_lay RX2 TX2 9 ∈ GW := GW_mem (tm1 211 (by decide +kernel)) (by decide +kernel)
theorem ly2_10 : u_lay RX2 TX2 10 ∈ GW := GW_mem (tm1 213 (by decide +kernel)) (by decide +kernel)
theorem ly2_11 : u_lay RX2 TX2 11 ∈ GW := GW_mem (tm1 215 (by decide +kernel)) (by decide +kernel)
theorem ly2_12 : u_lay RX2 TX2 12 ∈ GW := GW_mem (tm1 217 (by decide +kernel)) (by decide +kernel)
theorem ly2_13 : u_lay RX2 TX2 13 ∈ GW := GW_mem (tm1 219 (by decide +kernel)) (by decide +kernel)
theorem ck2 : CK 2 RX2 TX2 14 tyX2 := ⟨rfl, by decide, fun w hw => by
  obtain ⟨k, hk, rfl⟩ := List.mem_map.mp hw
  have hk := List.mem_range.mp hk
  match k, hk with
  | 0, _ => exact ly2_0
  | 1, _ => exact ly2_1
  | 2, _ => exact ly2_2
  | 3, _ => exact ly2_3
  | 4, _ => exact ly2_4
  | 5, _ => exact ly2_5
  | 6, _ => exact ly2_6
  | 7, _ => exact ly2_7
  | 8, _ => exact ly2_8
  | 9, _ => exact ly2_9
  | 10, _ => exact ly2_10
  | 11, _ => exact ly2_11
  | 12, _ => exact ly2_12
  | 13, _ => exact ly2_13
  | k + 14, hk => exact absurd hk (by omega), tyX2_ok, nmX2⟩
theorem ly3_0 : u_lay RX3 TX3 0 ∈ GW := GW_mem (tm2 203 (by decide +kernel)) (by decide +kernel)
theorem ly3_1 : u_lay RX3 TX3 1 ∈ GW := GW_mem (tm2 205 (by decide +kernel)) (by decide +kernel)
theorem ly3_2 : u_lay RX3 TX3 2 ∈ GW := GW_mem (tm2 207 (by decide +kernel)) (by decide +kernel)
theorem ly3_3 : u_lay RX3 TX3 3 ∈ GW := GW_mem (tm2 209 (by decide +kernel)) (by decide +kernel)
theorem ly3_4 : u_lay RX3 TX3 4 ∈ GW := GW_mem (tm2 211 (by decide +kernel)) (by decide +kernel)
theorem ly3_5 : u_lay RX3 TX3 5 ∈ GW := GW_mem (tm2 213 (by decide +kernel)) (by decide +kernel)
theorem ly3_6 : u_lay RX3 TX3 6 ∈ GW := GW_mem (tm2 215 (by decide +kernel)) (by decide +kernel)
theorem ly3_7 : u_lay RX3 TX3 7 ∈ GW := GW_mem (tm2 217 (by decide +kernel)) (by decide +kernel)
theorem ly3_8 : u_lay RX3 TX3 8 ∈ GW := GW_mem (tm2 219 (by decide +kernel)) (by decide +kernel)
theorem ly3_9 : u_lay RX3 TX3 9 ∈ GW := GW_mem (tm2 221 (by decide +kernel)) (by decide +kernel)
theorem ly3_10 : u_lay RX3 TX3 10 ∈ GW := GW_mem (tm2 223 (by decide +kernel)) (by decide +kernel)
theorem ly3_11 : u_lay RX3 TX3 11 ∈ GW := GW_mem (tm2 225 (by decide +kernel)) (by decide +kernel)
theorem ly3_12 : u_lay RX3 TX3 12 ∈ GW := GW_mem (tm2 227 (by decide +kernel)) (by decide +kernel)
theorem ck3 : CK 3 RX3 TX3 13 tyX3 := ⟨rfl, by decide, fun w hw => by
  obtain ⟨k, hk, rfl⟩ := List.mem_map.mp hw
  have hk := List.mem_range.mp hk
  match k, hk with
  | 0, _ => exact ly3_0
  | 1, _ => exact ly3_1
  | 2, _ => exact ly3_2
  | 3, _ => exact ly3_3
  | 4, _ => exact ly3_4
  | 5, _ => exact ly3_5
  | 6, _ => exact ly3_6
  | 7, _ => exact ly3_7
  | 8, _ => exact ly3_8
  | 9, _ => exact ly3_9
  | 10, _ => exact ly3_10
  | 11, _ => exact ly3_11
  | 12, _ => exact ly3_12
  | k + 13, hk => exact absurd hk (by omega), tyX3_ok, nmX3⟩
theorem ly4_0 : u_lay RX4 TX4 0 ∈ GW := GW_mem (tm2 18 (by decide +kernel)) (by decide +kernel)
theorem ly4_1 : u_lay RX4 TX4 1 ∈ GW := GW_mem (tm2 20 (by decide +kernel)) (by decide +kernel)
theorem ly4_2 : u_lay RX4 TX4 2 ∈ GW := GW_mem (tm2 22 (by decide +kernel)) (by decide +kernel)
theorem ly4_3 : u_lay RX4 TX4 3 ∈ GW := GW_mem (tm2 24 (by decide +kernel)) (by decide +kernel)
theorem ly4_4 : u_lay RX4 TX4 4 ∈ GW := GW_mem (tm2 26 (by decide +kernel)) (by decide +kernel)
theorem ly4_5 : u_lay RX4 TX4 5 ∈ GW := GW_mem (tm2 28 (by decide +kernel)) (by decide +kernel)
theorem ly4_6 : u_lay RX4 TX4 6 ∈ GW := GW_mem (tm2 30 (by decide +kernel)) (by decide +kernel)
theorem ly4_7 : u_lay RX4 TX4 7 ∈ GW := GW_mem (tm2 32 (by decide +kernel)) (by decide +kernel)
theorem ly4_8 : u_lay RX4 TX4 8 ∈ GW := GW_mem (tm2 34 (by decide +kernel)) (by decide +kernel)
theorem ck4 : CK 4 RX4 TX4 9 tyX4 := ⟨rfl, by decide, fun w hw => by
  obtain ⟨k, hk, rfl⟩ := List.mem_map.mp hw
  have hk := List.mem_range.mp hk
  match k, hk with
  | 0, _ => exact ly4_0
  | 1, _ => exact ly4_1
  | 2, _ => exact ly4_2
  | 3, _ => exact ly4_3
  | 4, _ => exact ly4_4
  | 5, _ => exact ly4_5
  | 6, _ => exact ly4_6
  | 7, _ => exact ly4_7
  | 8, _ => exact ly4_8
  | k + 9, hk => exact absurd hk (by omega), tyX4_ok, nmX4⟩
theorem ly5_0 : u_lay RX5 TX5 0 ∈ GW := GW_mem (tm2 67 (by decide +kernel)) (by decide +kernel)
theorem ly5_1 : u_lay RX5 TX5 1 ∈ GW := GW_mem (tm2 69 (by decide +kernel)) (by decide +kernel)
theorem ly5_2 : u_lay RX5 TX5 2 ∈ GW := GW_mem (tm2 71 (by decide +kernel)) (by decide +kernel)
theorem ly5_3 : u_lay RX5 TX5 3 ∈ GW := GW_mem (tm2 73 (by decide +kernel)) (by decide +kernel)
theorem ly5_4 : u_lay RX5 TX5 4 ∈ GW := GW_mem (tm2 75 (by decide +kernel)) (by decide +kernel)
theorem ly5_5 : u_lay RX5 TX5 5 ∈ GW := GW_mem (tm2 77 (by decide +kernel)) (by decide +kernel)
theorem ly5_6 : u_lay RX5 TX5 6 ∈ GW := GW_mem (tm2 79 (by decide +kernel)) (by decide +kernel)
theorem ly5_7 : u_lay RX5 TX5 7 ∈ GW := GW_mem (tm2 81 (by decide +kernel)) (by decide +kernel)
theorem ck5 : CK 5 RX5 TX5 8 tyX5 := ⟨rfl, by decide, fun w hw => by
  obtain ⟨k, hk, rfl⟩ := List.mem_map.mp hw
  have hk := List.mem_range.mp hk
  match k, hk with
  | 0, _ => exact ly5_0
  | 1, _ => exact ly5_1
  | 2, _ => exact ly5_2
  | 3, _ => exact ly5_3
  | 4, _ => exact ly5_4
  | 5, _ => exact ly5_5
  | 6, _ => exact ly5_6
  | 7, _ => exact ly5_7
  | k + 8, hk => exact absurd hk (by omega), tyX5_ok, nmX5⟩
theorem ly6_0 : u_lay RX6 TX6 0 ∈ GW := GW_mem (tm1 60 (by decide +kernel)) (by decide +kernel)
theorem ly6_1 : u_lay RX6 TX6 1 ∈ GW := GW_mem (tm1 62 (by decide +kernel)) (by decide +kernel)
theorem ly6_2 : u_lay RX6 TX6 2 ∈ GW := GW_mem (tm1 64 (by decide +kernel)) (by decide +kernel)
theorem ly6_3 : u_lay RX6 TX6 3 ∈ GW := GW_mem (tm1 66 (by decide +kernel)) (by decide +kernel)
theorem ly6_4 : u_lay RX6 TX6 4 ∈ GW := GW_mem (tm1 68 (by decide +kernel)) (by decide +kernel)
theorem ly6_5 : u_lay RX6 TX6 5 ∈ GW := GW_mem (tm1 70 (by decide +kernel)) (by decide +kernel)
theorem ly6_6 : u_lay RX6 TX6 6 ∈ GW := GW_mem (tm1 72 (by decide +kernel)) (by decide +kernel)
theorem ly6_7 : u_lay RX6 TX6 7 ∈ GW := GW_mem (tm1 74 (by decide +kernel)) (by decide +kernel)
theorem ly6_8 : u_lay RX6 TX6 8 ∈ GW := GW_mem (tm1 76 (by decide +kernel)) (by decide +kernel)
theorem ly6_9 : u_lay RX6 TX6 9 ∈ GW := GW_mem (tm1 78 (by decide +kernel)) (by decide +kernel)
theorem ly6_10 : u_lay RX6 TX6 10 ∈ GW := GW_mem (tm1 80 (by decide +kernel)) (by decide +kernel)
theorem ly6_11 : u_lay RX6 TX6 11 ∈ GW := GW_mem (tm1 82 (by decide +kernel)) (by decide +kernel)
theorem ly6_12 : u_lay RX6 TX6 12 ∈ GW := GW_mem (tm1 84 (by decide +kernel)) (by decide +kernel)
theorem ck6 : CK 6 RX6 TX6 13 tyX6 := ⟨rfl, by decide, fun w hw => by
  obtain ⟨k, hk, rfl⟩ := List.mem_map.mp hw
  have hk := List.mem_range.mp hk
  match k, hk with
  | 0, _ => exact ly6_0
  | 1, _ => exact ly6_1
  | 2, _ => exact ly6_2
  | 3, _ => exact ly6_3
  | 4, _ => exact ly6_4
  | 5, _ => exact ly6_5
  | 6, _ => exact ly6_6
  | 7, _ => exact ly6_7
  | 8, _ => exact ly6_8
  | 9, _ => exact ly6_9
  | 10, _ => exact ly6_10
  | 11, _ => exact ly6_11
  | 12, _ => exact ly6_12
  | k + 13, hk => exact absurd hk (by omega), tyX6_ok, nmX6⟩
theorem ly7_0 : u_lay RX7 TX7 0 ∈ GW := GW_mem (tm2 93 (by decide +kernel)) (by decide +kernel)
theorem ly7_1 : u_lay RX7 TX7 1 ∈ GW := GW_mem (tm2 95 (by decide +kernel)) (by decide +kernel)
theorem ly7_2 : u_lay RX7 TX7 2 ∈ GW := GW_mem (tm2 97 (by decide +kernel)) (by decide +kernel)
theorem ck7 : CK 7 RX7 TX7 3 tyX7 := ⟨rfl, by decide, fun w hw => by
  obtain ⟨k, hk, rfl⟩ := List.mem_map.mp hw
  have hk := List.mem_range.mp hk
  match k, hk with
  | 0, _ => exact ly7_0
  | 1, _ => exact ly7_1
  | 2, _ => exact ly7_2
  | k + 3, hk => exact absurd hk (by omega), tyX7_ok, nmX7⟩
theorem ly8_0 : u_lay RX8 TX8 0 ∈ GW := GW_mem (tm3 1 (by decide +kernel)) (by decide +kernel)
theorem ly8_1 : u_lay RX8 TX8 1 ∈ GW := GW_mem (tm3 3 (by decide +kernel)) (by decide +kernel)
theorem ly8_2 : u_lay RX8 TX8 2 ∈ GW := GW_mem (tm3 5 (by decide +kernel)) (by decide +kernel)
theorem ck8 : CK 8 RX8 TX8 3 tyX8 := ⟨rfl, by decide, fun w hw => by
  obtain ⟨k, hk, rfl⟩ := List.mem_map.mp hw
  have hk := List.mem_range.mp hk
  match k, hk with
  | 0, _ => exact ly8_0
  | 1, _ => exact ly8_1
  | 2, _ => exact ly8_2
  | k + 3, hk => exact absurd hk (by omega), tyX8_ok, nmX8⟩
theorem ly9_0 : u_lay RX9 TX9 0 ∈ GW := GW_mem (tm1 96 (by decide +kernel)) (by decide +kernel)
theorem ly9_1 : u_lay RX9 TX9 1 ∈ GW := GW_mem (tm1 98 (by decide +kernel)) (by decide +kernel)
theorem ck9 : CK 9 RX9 TX9 2 tyX9 := ⟨rfl, by decide, fun w hw => by
  obtain ⟨k, hk, rfl⟩ := List.mem_map.mp hw
  have hk := List.mem_range.mp hk
  match k, hk with
  | 0, _ => exact ly9_0
  | 1, _ => exact ly9_1
  | k + 2, hk => exact absurd hk (by omega), tyX9_ok, nmX9⟩
theorem ly10_0 : u_lay RX10 TX10 0 ∈ GW := GW_mem (tm2 126 (by decide +kernel)) (by decide +kernel)
theorem ly10_1 : u_lay RX10 TX10 1 ∈ GW := GW_mem (tm2 128 (by decide +kernel)) (by decide +kernel)
theorem ly10_2 : u_lay RX10 TX10 2 ∈ GW := GW_mem (tm2 130 (by decide +kernel)) (by decide +kernel)
theorem ly10_3 : u_lay RX10 TX10 3 ∈ GW := GW_mem (tm2 132 (by decide +kernel)) (by decide +kernel)
theorem ly10_4 : u_lay RX10 TX10 4 ∈ GW := GW_mem (tm2 134 (by decide +kernel)) (by decide +kernel)
theorem ly10_5 : u_lay RX10 TX10 5 ∈ GW := GW_mem (tm2 136 (by decide +kernel)) (by decide +kernel)
theorem ly10_6 : u_lay RX10 TX10 6 ∈ GW := GW_mem (tm2 138 (by decide +kernel)) (by decide +kernel)
theorem ly10_7 : u_lay RX10 TX10 7 ∈ GW := GW_mem (tm2 140 (by decide +kernel)) (by decide +kernel)
theorem ly10_8 : u_lay RX10 TX10 8 ∈ GW := GW_mem (tm2 142 (by decide +kernel)) (by decide +kernel)
theorem ck10 : CK 10 RX10 TX10 9 tyX10 := ⟨rfl, by decide, fun w hw => by
  obtain ⟨k, hk, rfl⟩ := List.mem_map.mp hw
  have hk := List.mem_range.mp hk
  match k, hk with
  | 0, _ => exact ly10_0
  | 1, _ => exact ly10_1
  | 2, _ => exact ly10_2
  | 3, _ => exact ly10_3
  | 4, _ => exact ly10_4
  | 5, _ => exact ly10_5
  | 6, _ => exact ly10_6
  | 7, _ => exact ly10_7
  | 8, _ => exact ly10_8
  | k + 9, hk => exact absurd hk (by omega), tyX10_ok, nmX10⟩
theorem ly11_0 : u_lay RX11 TX11 0 ∈ GW := GW_mem (tm3 26 (by decide +kernel)) (by decide +kernel)
theorem ly11_1 : u_lay RX11 TX11 1 ∈ GW := GW_mem (tm3 28 (by decide +kernel)) (by decide +kernel)
theorem ly11_2 : u_lay RX11 TX11 2 ∈ GW := GW_mem (tm3 30 (by decide +kernel)) (by decide +kernel)
theorem ly11_3 : u_lay RX11 TX11 3 ∈ GW := GW_mem (tm3 32 (by decide +kernel)) (by decide +kernel)
theorem ly11_4 : u_lay RX11 TX11 4 ∈ GW := GW_mem (tm3 34 (by decide +kernel)) (by decide +kernel)
theorem ly11_5 : u_lay RX11 TX11 5 ∈ GW := GW_mem (tm3 36 (by decide +kernel)) (by decide +kernel)
theorem ly11_6 : u_lay RX11 TX11 6 ∈ GW := GW_mem (tm3 38 (by decide +kernel)) (by decide +kernel)
theorem ly11_7 : u_lay RX11 TX11 7 ∈ GW := GW_mem (tm3 40 (by decide +kernel)) (by decide +kernel)
theorem ly11_8 : u_lay RX11 TX11 8 ∈ GW := GW_mem (tm3 42 (by decide +kernel)) (by decide +kernel)
theorem ly11_9 : u_lay RX11 TX11 9 ∈ GW := GW_mem (tm3 44 (by decide +kernel)) (by decide +kernel)
theorem ly11_10 : u_lay RX11 TX11 10 ∈ GW := GW_mem (tm3 46 (by decide +kernel)) (by decide +kernel)
theorem ly11_11 : u_lay RX11 TX11 11 ∈ GW := GW_mem (tm3 48 (by decide +kernel)) (by decide +kernel)
theorem ly11_12 : u_lay RX11 TX11 12 ∈ GW := GW_mem (tm3 50 (by decide +kernel)) (by decide +kernel)
theorem ly11_13 : u_lay RX11 TX11 13 ∈ GW := GW_mem (tm3 52 (by decide +kernel)) (by decide +kernel)
theorem ly11_14 : u_lay RX11 TX11 14 ∈ GW := GW_mem (tm3 54 (by decide +kernel)) (by decide +kernel)
theorem ly11_15 : u_lay RX11 TX11 15 ∈ GW := GW_mem (tm3 56 (by decide +kernel)) (by decide +kernel)
theorem ly11_16 : u_lay RX11 TX11 16 ∈ GW := GW_mem (tm3 58 (by decide +kernel)) (by decide +kernel)
theorem ly11_17 : u_lay RX11 TX11 17 ∈ GW := GW_mem (tm3 60 (by decide +kernel)) (by decide +kernel)
theorem ck11 : CK 11 RX11 TX11 18 tyX11 := ⟨rfl, by decide, fun w hw => by
  obtain ⟨k, hk, rfl⟩ := List.mem_map.mp hw
  have hk := List.mem_range.mp hk
  match k, hk with
  | 0, _ => exact ly11_0
  | 1, _ => exact ly11_1
  | 2, _ => exact ly11_2
  | 3, _ => exact ly11_3
  | 4, _ => exact ly11_4
  | 5, _ => exact ly11_5
  | 6, _ => exact ly11_6
  | 7, _ => exact ly11_7
  | 8, _ => exact ly11_8
  | 9, _ => exact ly11_9
  | 10, _ => exact ly11_10
  | 11, _ => exact ly11_11
  | 12, _ => exact ly11_12
  | 13, _ => exact ly11_13
  | 14, _ => exact ly11_14
  | 15, _ => exact ly11_15
  | 16, _ => exact ly11_16
  | 17, _ => exact ly11_17
  | k + 18, hk => exact absurd hk (by omega), tyX11_ok, nmX11⟩
theorem ly12_0 : u_lay RX12 TX12 0 ∈ GW := GW_mem (tm6 156 (by decide +kernel)) (by decide +kernel)
theorem ly12_1 : u_lay RX12 TX12 1 ∈ GW := GW_mem (tm6 158 (by decide +kernel)) (by decide +kernel)
theorem ly12_2 : u_lay RX12 TX12 2 ∈ GW := GW_mem (tm6 160 (by decide +kernel)) (by decide +kernel)
theorem ly12_3 : u_lay RX12 TX12 3 ∈ GW := GW_mem (tm6 162 (by decide +kernel)) (by decide +kernel)
theorem ly12_4 : u_lay RX12 TX12 4 ∈ GW := GW_mem (tm6 164 (by decide +kernel)) (by decide +kernel)
theorem ly12_5 : u_lay RX12 TX12 5 ∈ GW := GW_mem (tm6 166 (by decide +kernel)) (by decide +kernel)
theorem ly12_6 : u_lay RX12 TX12 6 ∈ GW := GW_mem (tm6 168 (by decide +kernel)) (by decide +kernel)
theorem ly12_7 : u_lay RX12 TX12 7 ∈ GW := GW_mem (tm6 170 (by decide +kernel)) (by decide +kernel)
theorem ly12_8 : u_lay RX12 TX12 8 ∈ GW := GW_mem (tm6 172 (by decide +kernel)) (by decide +kernel)
theorem ly12_9 : u_lay RX12 TX12 9 ∈ GW := GW_mem (tm6 174 (by decide +kernel)) (by decide +kernel)
theorem ly12_10 : u_lay RX12 TX12 10 ∈ GW := GW_mem (tm6 176 (by decide +kernel)) (by decide +kernel)
theorem ly12_11 : u_lay RX12 TX12 11 ∈ GW := GW_mem (tm6 178 (by decide +kernel)) (by decide +kernel)
theorem ly12_12 : u_lay RX12 TX12 12 ∈ GW := GW_mem (tm6 180 (by decide +kernel)) (by decide +kernel)
theorem ly12_13 : u_lay RX12 TX12 13 ∈ GW := GW_mem (tm6 182 (by decide +kernel)) (by decide +kernel)
theorem ly12_14 : u_lay RX12 TX12 14 ∈ GW := GW_mem (tm6 184 (by decide +kernel)) (by decide +kernel)
theorem ly12_15 : u_lay RX12 TX12 15 ∈ GW := GW_mem (tm6 186 (by decide +kernel)) (by decide +kernel)
theorem ly12_16 : u_lay RX12 TX12 16 ∈ GW := GW_mem (tm6 188 (by decide +kernel)) (by decide +kernel)
theorem ly12_17 : u_lay RX12 TX12 17 ∈ GW := GW_mem (tm6 190 (by decide +kernel)) (by decide +kernel)
theorem ly12_18 : u_lay RX12 TX12 18 ∈ GW := GW_mem (tm6 192 (by decide +kernel)) (by decide +kernel)
theorem ly12_19 : u_lay RX12 TX12 19 ∈ GW := GW_mem (tm6 194 (by decide +kernel)) (by decide +kernel)
theorem ly12_20 : u_lay RX12 TX12 20 ∈ GW := GW_mem (tm6 196 (by decide +kernel)) (by decide +kernel)
theorem ly12_21 : u_lay RX12 TX12 21 ∈ GW := GW_mem (tm6 198 (by decide +kernel)) (by decide +kernel)
theorem ly12_22 : u_lay RX12 TX12 22 ∈ GW := GW_mem (tm6 200 (by decide +kernel)) (by decide +kernel)
theorem ly12_23 : u_lay RX12 TX12 23 ∈ GW := GW_mem (tm6 202 (by decide +kernel)) (by decide +kernel)
theorem ly12_24 : u_lay RX12 TX12 24 ∈ GW := GW_mem (tm6 204 (by decide +kernel)) (by decide +kernel)
theorem ly12_25 : u_lay RX12 TX12 25 ∈ GW := GW_mem (tm6 206 (by decide +kernel)) (by decide +kernel)
theorem ly12_26 : u_lay RX12 TX12 26 ∈ GW := GW_mem (tm6 208 (by decide +kernel)) (by decide +kernel)
theorem ly12_27 : u_lay RX12 TX12 27 ∈ GW := GW_mem (tm6 210 (by decide +kernel)) (by decide +kernel)
theorem ly12_28 : u_lay RX12 TX12 28 ∈ GW := GW_mem (tm6 212 (by decide +kernel)) (by decide +kernel)
theorem ly12_29 : u_lay RX12 TX12 29 ∈ GW := GW_mem (tm6 214 (by decide +kernel)) (by decide +kernel)
theorem ly12_30 : u_lay RX12 TX12 30 ∈ GW := GW_mem (tm6 216 (by decide +kernel)) (by decide +kernel)
theorem ly12_31 : u_lay RX12 TX12 31 ∈ GW := GW_mem (tm6 218 (by decide +kernel)) (by decide +kernel)
theorem ly12_32 : u_lay RX12 TX12 32 ∈ GW := GW_mem (tm6 220 (by decide +kernel)) (by decide +kernel)
theorem ly12_33 : u_lay RX12 TX12 33 ∈ GW := GW_mem (tm6 222 (by decide +kernel)) (by decide +kernel)
theorem ly12_34 : u_lay RX12 TX12 34 ∈ GW := GW_mem (tm6 224 (by decide +kernel)) (by decide +kernel)
theorem ly12_35 : u_lay RX12 TX12 35 ∈ GW := GW_mem (tm6 226 (by decide +kernel)) (by decide +kernel)
theorem ly12_36 : u_lay RX12 TX12 36 ∈ GW := GW_mem (tm6 228 (by decide +kernel)) (by decide +kernel)
theorem ly12_37 : u_lay RX12 TX12 37 ∈ GW := GW_mem (tm6 230 (by decide +kernel)) (by decide +kernel)
theorem ly12_38 : u_lay RX12 TX12 38 ∈ GW := GW_mem (tm6 232 (by decide +kernel)) (by decide +kernel)
theorem ly12_39 : u_lay RX12 TX12 39 ∈ GW := GW_mem (tm6 234 (by decide +kernel)) (by decide +kernel)
theorem ly12_40 : u_lay RX12 TX12 40 ∈ GW := GW_mem (tm6 236 (by decide +kernel)) (by decide +kernel)
theorem ly12_41 : u_lay RX12 TX12 41 ∈ GW := GW_mem (tm6 238 (by decide +kernel)) (by decide +kernel)
theorem ly12_42 : u_lay RX12 TX12 42 ∈ GW := GW_mem (tm7 0 (by decide +kernel)) (by decide +kernel)
theorem ly12_43 : u_lay RX12 TX12 43 ∈ GW := GW_mem (tm7 2 (by decide +kernel)) (by decide +kernel)
theorem ly12_44 : u_lay RX12 TX12 44 ∈ GW := GW_mem (tm7 4 (by decide +kernel)) (by decide +kernel)
theorem ck12 : CK 12 RX12 TX12 45 tyX12 := ⟨rfl, by decide, fun w hw => by
  obtain ⟨k, hk, rfl⟩ := List.mem_map.mp hw
  have hk := List.mem_range.mp hk
  match k, hk with
  | 0, _ => exact ly12_0
  | 1, _ => exact ly12_1
  | 2, _ => exact ly12_2
  | 3, _ => exact ly12_3
  | 4, _ => exact ly12_4
  | 5, _ => exact ly12_5
  | 6, _ => exact ly12_6
  | 7, _ => exact ly12_7
  | 8, _ => exact ly12_8
  | 9, _ => exact ly12_9
  | 10, _ => exact ly12_10
  | 11, _ => exact ly12_11
  | 12, _ => exact ly12_12
  | 13, _ => exact ly12_13
  | 14, _ => exact ly12_14
  | 15, _ => exact ly12_15
  | 16, _ => exact ly12_16
  | 17, _ => exact ly12_17
  | 18, _ => exact ly12_18
  | 19, _ => exact ly12_19
  | 20, _ => exact ly12_20
  | 21, _ => exact ly12_21
  | 22, _ => exact ly12_22
  | 23, _ => exact ly12_23
  | 24, _ => exact ly12_24
  | 25, _ => exact ly12_25
  | 26, _ => exact ly12_26
  | 27, _ => exact ly12_27
  | 28, _ => exact ly12_28
  | 29, _ => exact ly12_29
  | 30, _ => exact ly12_30
  | 31, _ => exact ly12_31
  | 32, _ => exact ly12_32
  | 33, _ => exact ly12_33
  | 34, _ => exact ly12_34
  | 35, _ => exact ly12_35
  | 36, _ => exact ly12_36
  | 37, _ => exact ly12_37
  | 38, _ => exact ly12_38
  | 39, _ => exact ly12_39
  | 40, _ => exact ly12_40
  | 41, _ => exact ly12_41
  | 42, _ => exact ly12_42
  | 43, _ => exact ly12_43
  | 44, _ => exact ly12_44
  | k + 45, hk => exact absurd hk (by omega), tyX12_ok, nmX12⟩
theorem flX11_7 : FL RX11 7 11 2 false .long := FL.of ck11 (by decide) (by decide) (GW_mem (tm3 10 (by decide +kernel)) (by decide +kernel)) rfl rfl rfl
theorem flX11_15 : FL RX11 15 11 3 true (.array (.object "VaneTown$Tray")) := FL.of ck11 (by decide) (by decide) (GW_mem (tm3 11 (by decide +kernel)) (by decide +kernel)) rfl rfl rfl
theorem flX11_22 : FL RX11 22 11 4 true (.object "VaneTown$Text") := FL.of ck11 (by decide) (by decide) (GW_mem (tm3 12 (by decide +kernel)) (by decide +kernel)) rfl rfl rfl
theorem flX11_29 : FL RX11 29 11 5 true (.object "VaneTown$VillageReader") := FL.of ck11 (by decide) (by decide) (GW_mem (tm3 13 (by decide +kernel)) (by decide +kernel)) rfl rfl rfl
theorem flX11_36 : FL RX11 36 11 6 true (.object "VaneTown$OrdersReader") := FL.of ck11 (by decide) (by decide) (GW_mem (tm3 14 (by decide +kernel)) (by decide +kernel)) rfl rfl rfl
theorem flX11_40 : FL RX11 40 11 7 false .int := FL.of ck11 (by decide) (by decide) (GW_mem (tm3 15 (by decide +kernel)) (by decide +kernel)) rfl rfl rfl
theorem flX11_44 : FL RX11 44 11 8 false .int := FL.of ck11 (by decide) (by decide) (GW_mem (tm3 16 (by decide +kernel)) (by decide +kernel)) rfl rfl rfl
theorem flX11_50 : FL RX11 50 11 9 true (.object "VaneTown$Town") := FL.of ck11 (by decide) (by decide) (GW_mem (tm3 17 (by decide +kernel)) (by decide +kernel)) rfl rfl rfl
theorem flX11_57 : FL RX11 57 11 10 false (.object "VaneTown$Plan") := FL.of ck11 (by decide) (by decide) (GW_mem (tm3 18 (by decide +kernel)) (by decide +kernel)) rfl rfl rfl
theorem flX11_64 : FL RX11 64 11 11 false (.object "VaneTown$Steps") := FL.of ck11 (by decide) (by decide) (GW_mem (tm3 19 (by decide +kernel)) (by decide +kernel)) rfl rfl rfl
theorem flX11_68 : FL RX11 68 11 12 true (.array (.object "VaneTown$Town")) := FL.of ck11 (by decide) (by decide) (GW_mem (tm3 20 (by decide +kernel)) (by decide +kernel)) rfl rfl rfl
theorem flX11_75 : FL RX11 75 11 14 true (.object "VaneTown$Works") := FL.of ck11 (by decide) (by decide) (GW_mem (tm3 22 (by decide +kernel)) (by decide +kernel)) rfl rfl rfl
theorem flX11_82 : FL RX11 82 11 15 true (.object "VaneTown$State") := FL.of ck11 (by decide) (by decide) (GW_mem (tm3 23 (by decide +kernel)) (by decide +kernel)) rfl rfl rfl
theorem flX11_89 : FL RX11 89 11 16 true (.object "VaneTown$Joins") := FL.of ck11 (by decide) (by decide) (GW_mem (tm3 24 (by decide +kernel)) (by decide +kernel)) rfl rfl rfl
theorem flX11_96 : FL RX11 96 11 17 true (.object "VaneTown$Runner") := FL.of ck11 (by decide) (by decide) (GW_mem (tm3 25 (by decide +kernel)) (by decide +kernel)) rfl rfl rfl
theorem flX11_101 : FL RX11 101 11 0 false .int := FL.of ck11 (by decide) (by decide) (GW_mem (tm3 8 (by decide +kernel)) (by decide +kernel)) rfl rfl rfl
theorem flX11_104 : FL RX11 104 11 1 false .long := FL.of ck11 (by decide) (by decide) (GW_mem (tm3 9 (by decide +kernel)) (by decide +kernel)) rfl rfl rfl
theorem flX11_134 : FL RX11 134 8 2 true (.array .long) := FL.of ck8 (by decide) (by decide) (GW_mem (tm3 0 (by decide +kernel)) (by decide +kernel)) rfl rfl rfl
theorem flX11_141 : FL RX11 141 8 0 false .int := FL.of ck8 (by decide) (by decide) (GW_mem (tm2 236 (by decide +kernel)) (by decide +kernel)) rfl rfl rfl
theorem flX11_161 : FL RX11 161 6 1 false .int := FL.of ck6 (by decide) (by decide) (GW_mem (tm1 39 (by decide +kernel)) (by decide +kernel)) rfl rfl rfl
theorem flX11_174 : FL RX11 174 7 0 false (.object "VaneTown$Plan") := FL.of ck7 (by decide) (by decide) (GW_mem (tm2 86 (by decide +kernel)) (by decide +kernel)) rfl rfl rfl
theorem flX11_177 : FL RX11 177 7 1 true (.object "VaneTown$State") := FL.of ck7 (by decide) (by decide) (GW_mem (tm2 89 (by decide +kernel)) (by decide +kernel)) rfl rfl rfl
theorem flX11_184 : FL RX11 184 7 2 false (.object "VaneTown$Steps") := FL.of ck7 (by decide) (by decide) (GW_mem (tm2 92 (by decide +kernel)) (by decide +kernel)) rfl rfl rfl
theorem flX11_190 : FL RX11 190 2 1 false .int := FL.of ck2 (by decide) (by decide) (GW_mem (tm1 146 (by decide +kernel)) (by decide +kernel)) rfl rfl rfl
theorem flX11_199 : FL RX11 199 5 1 false .int := FL.of ck5 (by decide) (by decide) (GW_mem (tm2 48 (by decide +kernel)) (by decide +kernel)) rfl rfl rfl
theorem flX11_202 : FL RX11 202 2 0 false .int := FL.of ck2 (by decide) (by decide) (GW_mem (tm1 139 (by decide +kernel)) (by decide +kernel)) rfl rfl rfl
theorem flX11_205 : FL RX11 205 2 2 false .int := FL.of ck2 (by decide) (by decide) (GW_mem (tm1 150 (by decide +kernel)) (by decide +kernel)) rfl rfl rfl
theorem flX11_208 : FL RX11 208 4 8 false .int := FL.of ck4 (by decide) (by decide) (GW_mem (tm2 17 (by decide +kernel)) (by decide +kernel)) rfl rfl rfl
theorem flX11_211 : FL RX11 211 4 6 false .int := FL.of ck4 (by decide) (by decide) (GW_mem (tm2 10 (by decide +kernel)) (by decide +kernel)) rfl rfl rfl
theorem flX11_214 : FL RX11 214 4 7 false .int := FL.of ck4 (by decide) (by decide) (GW_mem (tm2 14 (by decide +kernel)) (by decide +kernel)) rfl rfl rfl
theorem flX11_220 : FL RX11 220 2 6 true (.array .int) := FL.of ck2 (by decide) (by decide) (GW_mem (tm1 161 (by decide +kernel)) (by decide +kernel)) rfl rfl rfl
theorem flX11_224 : FL RX11 224 2 7 true (.array .int) := FL.of ck2 (by decide) (by decide) (GW_mem (tm1 165 (by decide +kernel)) (by decide +kernel)) rfl rfl rfl
theorem flX11_227 : FL RX11 227 2 8 true (.array .int) := FL.of ck2 (by decide) (by decide) (GW_mem (tm1 168 (by decide +kernel)) (by decide +kernel)) rfl rfl rfl
theorem flX11_230 : FL RX11 230 4 2 true (.array .int) := FL.of ck4 (by decide) (by decide) (GW_mem (tm1 238 (by decide +kernel)) (by decide +kernel)) rfl rfl rfl
theorem flX11_233 : FL RX11 233 4 3 true (.array .int) := FL.of ck4 (by decide) (by decide) (GW_mem (tm2 0 (by decide +kernel)) (by decide +kernel)) rfl rfl rfl
theorem flX11_236 : FL RX11 236 4 4 true (.array .int) := FL.of ck4 (by decide) (by decide) (GW_mem (tm2 3 (by decide +kernel)) (by decide +kernel)) rfl rfl rfl
theorem flX11_242 : FL RX11 242 2 10 true (.array .int) := FL.of ck2 (by decide) (by decide) (GW_mem (tm1 177 (by decide +kernel)) (by decide +kernel)) rfl rfl rfl
theorem flX11_245 : FL RX11 245 2 11 true (.array .int) := FL.of ck2 (by decide) (by decide) (GW_mem (tm1 182 (by decide +kernel)) (by decide +kernel)) rfl rfl rfl
theorem flX11_248 : FL RX11 248 2 12 true (.array .int) := FL.of ck2 (by decide) (by decide) (GW_mem (tm1 187 (by decide +kernel)) (by decide +kernel)) rfl rfl rfl
theorem flX11_251 : FL RX11 251 2 13 true (.array .int) := FL.of ck2 (by decide) (by decide) (GW_mem (tm1 191 (by decide +kernel)) (by decide +kernel)) rfl rfl rfl
theorem flX11_254 : FL RX11 254 4 5 true (.array .int) := FL.of ck4 (by decide) (by decide) (GW_mem (tm2 7 (by decide +kernel)) (by decide +kernel)) rfl rfl rfl
theorem flX11_260 : FL RX11 260 10 2 true (.array .int) := FL.of ck10 (by decide) (by decide) (GW_mem (tm2 114 (by decide +kernel)) (by decide +kernel)) rfl rfl rfl
theorem flX11_269 : FL RX11 269 4 0 true (.array .int) := FL.of ck4 (by decide) (by decide) (GW_mem (tm1 231 (by decide +kernel)) (by decide +kernel)) rfl rfl rfl
theorem flX11_272 : FL RX11 272 4 1 true (.array .int) := FL.of ck4 (by decide) (by decide) (GW_mem (tm1 234 (by decide +kernel)) (by decide +kernel)) rfl rfl rfl
theorem flX11_288 : FL RX11 288 10 4 false .int := FL.of ck10 (by decide) (by decide) (GW_mem (tm2 117 (by decide +kernel)) (by decide +kernel)) rfl rfl rfl
theorem flX11_295 : FL RX11 295 0 2 false .int := FL.of ck0 (by decide) (by decide) (GW_mem (tm2 156 (by decide +kernel)) (by decide +kernel)) rfl rfl rfl
theorem flX11_301 : FL RX11 301 0 3 true (.array .int) := FL.of ck0 (by decide) (by decide) (GW_mem (tm2 158 (by decide +kernel)) (by decide +kernel)) rfl rfl rfl
theorem flX11_339 : FL RX11 339 10 8 false .int := FL.of ck10 (by decide) (by decide) (GW_mem (tm2 125 (by decide +kernel)) (by decide +kernel)) rfl rfl rfl
theorem flX11_368 : FL RX11 368 10 5 false .int := FL.of ck10 (by decide) (by decide) (GW_mem (tm2 120 (by decide +kernel)) (by decide +kernel)) rfl rfl rfl
theorem flX11_398 : FL RX11 398 5 0 false .boolean := FL.of ck5 (by decide) (by decide) (GW_mem (tm2 45 (by decide +kernel)) (by decide +kernel)) rfl rfl rfl
theorem flX11_410 : FL RX11 410 3 8 false .int := FL.of ck3 (by decide) (by decide) (GW_mem (tm2 194 (by decide +kernel)) (by decide +kernel)) rfl rfl rfl
theorem flX11_413 : FL RX11 413 3 9 false .boolean := FL.of ck3 (by decide) (by decide) (GW_mem (tm2 196 (by decide +kernel)) (by decide +kernel)) rfl rfl rfl
theorem flX11_416 : FL RX11 416 3 10 true (.array .int) := FL.of ck3 (by decide) (by decide) (GW_mem (tm2 198 (by decide +kernel)) (by decide +kernel)) rfl rfl rfl
theorem flX11_419 : FL RX11 419 3 11 false .int := FL.of ck3 (by decide) (by decide) (GW_mem (tm2 200 (by decide +kernel)) (by decide +kernel)) rfl rfl rfl
theorem flX11_422 : FL RX11 422 3 12 true (.array .int) := FL.of ck3 (by decide) (by decide) (GW_mem (tm2 202 (by decide +kernel)) (by decide +kernel)) rfl rfl rfl
theorem flX11_425 : FL RX11 425 11 13 false .int := FL.of ck11 (by decide) (by decide) (GW_mem (tm3 21 (by decide +kernel)) (by decide +kernel)) rfl rfl rfl
theorem flX11_439 : FL RX11 439 6 11 false .int := FL.of ck6 (by decide) (by decide) (GW_mem (tm1 57 (by decide +kernel)) (by decide +kernel)) rfl rfl rfl
theorem flX11_442 : FL RX11 442 6 12 false .int := FL.of ck6 (by decide) (by decide) (GW_mem (tm1 59 (by decide +kernel)) (by decide +kernel)) rfl rfl rfl
theorem flX11_443 : FL RX11 443 8 1 false .int := FL.of ck8 (by decide) (by decide) (GW_mem (tm2 238 (by decide +kernel)) (by decide +kernel)) rfl rfl rfl
theorem flX0_9 : FL RX0 9 0 3 true (.array .int) := FL.of ck0 (by decide) (by decide) (GW_mem (tm2 157 (by decide +kernel)) (by decide +kernel)) rfl rfl rfl
theorem flX0_15 : FL RX0 15 0 4 true (.array .int) := FL.of ck0 (by decide) (by decide) (GW_mem (tm2 159 (by decide +kernel)) (by decide +kernel)) rfl rfl rfl
theorem flX0_18 : FL RX0 18 0 6 true (.array .int) := FL.of ck0 (by decide) (by decide) (GW_mem (tm2 161 (by decide +kernel)) (by decide +kernel)) rfl rfl rfl
theorem flX0_21 : FL RX0 21 0 0 false (.object "VaneTown$Plan") := FL.of ck0 (by decide) (by decide) (GW_mem (tm2 153 (by decide +kernel)) (by decide +kernel)) rfl rfl rfl
theorem flX0_25 : FL RX0 25 0 1 false .int := FL.of ck0 (by decide) (by decide) (GW_mem (tm2 154 (by decide +kernel)) (by decide +kernel)) rfl rfl rfl
theorem flX0_29 : FL RX0 29 0 2 false .int := FL.of ck0 (by decide) (by decide) (GW_mem (tm2 155 (by decide +kernel)) (by decide +kernel)) rfl rfl rfl
theorem flX0_32 : FL RX0 32 0 5 false .int := FL.of ck0 (by decide) (by decide) (GW_mem (tm2 160 (by decide +kernel)) (by decide +kernel)) rfl rfl rfl
theorem flX0_51 : FL RX0 51 2 2 false .int := FL.of ck2 (by decide) (by decide) (GW_mem (tm1 149 (by decide +kernel)) (by decide +kernel)) rfl rfl rfl
theorem flX0_56 : FL RX0 56 2 12 true (.array .int) := FL.of ck2 (by decide) (by decide) (GW_mem (tm1 184 (by decide +kernel)) (by decide +kernel)) rfl rfl rfl
theorem flX0_59 : FL RX0 59 2 10 true (.array .int) := FL.of ck2 (by decide) (by decide) (GW_mem (tm1 174 (by decide +kernel)) (by decide +kernel)) rfl rfl rfl
theorem flX0_62 : FL RX0 62 2 11 true (.array .int) := FL.of ck2 (by decide) (by decide) (GW_mem (tm1 179 (by decide +kernel)) (by decide +kernel)) rfl rfl rfl
theorem flX0_65 : FL RX0 65 2 1 false .int := FL.of ck2 (by decide) (by decide) (GW_mem (tm1 144 (by decide +kernel)) (by decide +kernel)) rfl rfl rfl
theorem flX0_79 : FL RX0 79 2 13 true (.array .int) := FL.of ck2 (by decide) (by decide) (GW_mem (tm1 190 (by decide +kernel)) (by decide +kernel)) rfl rfl rfl
theorem flX1_11 : FL RX1 11 1 3 true (.array .int) := FL.of ck1 (by decide) (by decide) (GW_mem (tm1 110 (by decide +kernel)) (by decide +kernel)) rfl rfl rfl
theorem flX1_15 : FL RX1 15 1 0 false (.object "VaneTown$Text") := FL.of ck1 (by decide) (by decide) (GW_mem (tm1 107 (by decide +kernel)) (by decide +kernel)) rfl rfl rfl
theorem flX1_19 : FL RX1 19 1 1 false (.object "VaneTown$Plan") := FL.of ck1 (by decide) (by decide) (GW_mem (tm1 108 (by decide +kernel)) (by decide +kernel)) rfl rfl rfl
theorem flX1_23 : FL RX1 23 1 2 false (.object "VaneTown$Steps") := FL.of ck1 (by decide) (by decide) (GW_mem (tm1 109 (by decide +kernel)) (by decide +kernel)) rfl rfl rfl
theorem flX1_32 : FL RX1 32 1 4 false .int := FL.of ck1 (by decide) (by decide) (GW_mem (tm1 111 (by decide +kernel)) (by decide +kernel)) rfl rfl rfl
theorem flX1_36 : FL RX1 36 6 5 false .int := FL.of ck6 (by decide) (by decide) (GW_mem (tm1 44 (by decide +kernel)) (by decide +kernel)) rfl rfl rfl
theorem flX1_48 : FL RX1 48 5 0 false .boolean := FL.of ck5 (by decide) (by decide) (GW_mem (tm2 44 (by decide +kernel)) (by decide +kernel)) rfl rfl rfl
theorem flX1_52 : FL RX1 52 6 6 false .int := FL.of ck6 (by decide) (by decide) (GW_mem (tm1 47 (by decide +kernel)) (by decide +kernel)) rfl rfl rfl
theorem flX1_62 : FL RX1 62 5 1 false .int := FL.of ck5 (by decide) (by decide) (GW_mem (tm2 47 (by decide +kernel)) (by decide +kernel)) rfl rfl rfl
theorem flX1_68 : FL RX1 68 5 2 false .int := FL.of ck5 (by decide) (by decide) (GW_mem (tm2 51 (by decide +kernel)) (by decide +kernel)) rfl rfl rfl
theorem flX1_88 : FL RX1 88 5 7 true (.array .int) := FL.of ck5 (by decide) (by decide) (GW_mem (tm2 66 (by decide +kernel)) (by decide +kernel)) rfl rfl rfl
theorem flX1_91 : FL RX1 91 5 3 true (.array .int) := FL.of ck5 (by decide) (by decide) (GW_mem (tm2 54 (by decide +kernel)) (by decide +kernel)) rfl rfl rfl
theorem flX1_115 : FL RX1 115 5 5 true (.array .int) := FL.of ck5 (by decide) (by decide) (GW_mem (tm2 60 (by decide +kernel)) (by decide +kernel)) rfl rfl rfl
theorem flX1_124 : FL RX1 124 5 4 true (.array .int) := FL.of ck5 (by decide) (by decide) (GW_mem (tm2 57 (by decide +kernel)) (by decide +kernel)) rfl rfl rfl
theorem flX1_127 : FL RX1 127 6 10 false .int := FL.of ck6 (by decide) (by decide) (GW_mem (tm1 54 (by decide +kernel)) (by decide +kernel)) rfl rfl rfl
theorem flX1_130 : FL RX1 130 5 6 true (.array .int) := FL.of ck5 (by decide) (by decide) (GW_mem (tm2 63 (by decide +kernel)) (by decide +kernel)) rfl rfl rfl
theorem flX2_9 : FL RX2 9 2 3 true (.array .long) := FL.of ck2 (by decide) (by decide) (GW_mem (tm1 152 (by decide +kernel)) (by decide +kernel)) rfl rfl rfl
theorem flX2_15 : FL RX2 15 2 4 true (.array .long) := FL.of ck2 (by decide) (by decide) (GW_mem (tm1 154 (by decide +kernel)) (by decide +kernel)) rfl rfl rfl
theorem flX2_18 : FL RX2 18 2 5 true (.array .long) := FL.of ck2 (by decide) (by decide) (GW_mem (tm1 156 (by decide +kernel)) (by decide +kernel)) rfl rfl rfl
theorem flX2_21 : FL RX2 21 2 6 true (.array .int) := FL.of ck2 (by decide) (by decide) (GW_mem (tm1 158 (by decide +kernel)) (by decide +kernel)) rfl rfl rfl
theorem flX2_25 : FL RX2 25 2 7 true (.array .int) := FL.of ck2 (by decide) (by decide) (GW_mem (tm1 162 (by decide +kernel)) (by decide +kernel)) rfl rfl rfl
theorem flX2_28 : FL RX2 28 2 8 true (.array .int) := FL.of ck2 (by decide) (by decide) (GW_mem (tm1 166 (by decide +kernel)) (by decide +kernel)) rfl rfl rfl
theorem flX2_31 : FL RX2 31 2 9 true (.array .int) := FL.of ck2 (by decide) (by decide) (GW_mem (tm1 170 (by decide +kernel)) (by decide +kernel)) rfl rfl rfl
theorem flX2_34 : FL RX2 34 2 10 true (.array .int) := FL.of ck2 (by decide) (by decide) (GW_mem (tm1 173 (by decide +kernel)) (by decide +kernel)) rfl rfl rfl
theorem flX2_37 : FL RX2 37 2 11 true (.array .int) := FL.of ck2 (by decide) (by decide) (GW_mem (tm1 178 (by decide +kernel)) (by decide +kernel)) rfl rfl rfl
theorem flX2_40 : FL RX2 40 2 12 true (.array .int) := FL.of ck2 (by decide) (by decide) (GW_mem (tm1 183 (by decide +kernel)) (by decide +kernel)) rfl rfl rfl
theorem flX2_43 : FL RX2 43 2 13 true (.array .int) := FL.of ck2 (by decide) (by decide) (GW_mem (tm1 188 (by decide +kernel)) (by decide +kernel)) rfl rfl rfl
theorem flX2_46 : FL RX2 46 2 0 false .int := FL.of ck2 (by decide) (by decide) (GW_mem (tm1 136 (by decide +kernel)) (by decide +kernel)) rfl rfl rfl
theorem flX2_50 : FL RX2 50 2 1 false .int := FL.of ck2 (by decide) (by decide) (GW_mem (tm1 140 (by decide +kernel)) (by decide +kernel)) rfl rfl rfl
theorem flX2_53 : FL RX2 53 2 2 false .int := FL.of ck2 (by decide) (by decide) (GW_mem (tm1 147 (by decide +kernel)) (by decide +kernel)) rfl rfl rfl
theorem flX3_12 : FL RX3 12 3 0 true (.object "VaneTown$State") := FL.of ck3 (by decide) (by decide) (GW_mem (tm2 185 (by decide +kernel)) (by decide +kernel)) rfl rfl rfl
theorem flX3_20 : FL RX3 20 3 4 true (.array .int) := FL.of ck3 (by decide) (by decide) (GW_mem (tm2 189 (by decide +kernel)) (by decide +kernel)) rfl rfl rfl
theorem flX3_24 : FL RX3 24 3 10 true (.array .int) := FL.of ck3 (by decide) (by decide) (GW_mem (tm2 197 (by decide +kernel)) (by decide +kernel)) rfl rfl rfl
theorem flX3_27 : FL RX3 27 3 12 true (.array .int) := FL.of ck3 (by decide) (by decide) (GW_mem (tm2 201 (by decide +kernel)) (by decide +kernel)) rfl rfl rfl
theorem flX3_30 : FL RX3 30 7 1 true (.object "VaneTown$State") := FL.of ck7 (by decide) (by decide) (GW_mem (tm2 88 (by decide +kernel)) (by decide +kernel)) rfl rfl rfl
theorem flX3_37 : FL RX3 37 7 0 false (.object "VaneTown$Plan") := FL.of ck7 (by decide) (by decide) (GW_mem (tm2 85 (by decide +kernel)) (by decide +kernel)) rfl rfl rfl
theorem flX3_41 : FL RX3 41 3 1 false (.object "VaneTown$Plan") := FL.of ck3 (by decide) (by decide) (GW_mem (tm2 186 (by decide +kernel)) (by decide +kernel)) rfl rfl rfl
theorem flX3_42 : FL RX3 42 7 2 false (.object "VaneTown$Steps") := FL.of ck7 (by decide) (by decide) (GW_mem (tm2 91 (by decide +kernel)) (by decide +kernel)) rfl rfl rfl
theorem flX3_46 : FL RX3 46 3 2 false (.object "VaneTown$Steps") := FL.of ck3 (by decide) (by decide) (GW_mem (tm2 187 (by decide +kernel)) (by decide +kernel)) rfl rfl rfl
theorem flX3_49 : FL RX3 49 3 3 false (.object "VaneTown$Works") := FL.of ck3 (by decide) (by decide) (GW_mem (tm2 188 (by decide +kernel)) (by decide +kernel)) rfl rfl rfl
theorem flX3_59 : FL RX3 59 3 5 false .int := FL.of ck3 (by decide) (by decide) (GW_mem (tm2 190 (by decide +kernel)) (by decide +kernel)) rfl rfl rfl
theorem flX3_63 : FL RX3 63 3 6 false .int := FL.of ck3 (by decide) (by decide) (GW_mem (tm2 191 (by decide +kernel)) (by decide +kernel)) rfl rfl rfl
theorem flX3_66 : FL RX3 66 3 8 false .int := FL.of ck3 (by decide) (by decide) (GW_mem (tm2 193 (by decide +kernel)) (by decide +kernel)) rfl rfl rfl
theorem flX3_69 : FL RX3 69 3 7 false .boolean := FL.of ck3 (by decide) (by decide) (GW_mem (tm2 192 (by decide +kernel)) (by decide +kernel)) rfl rfl rfl
theorem flX3_74 : FL RX3 74 5 2 false .int := FL.of ck5 (by decide) (by decide) (GW_mem (tm2 50 (by decide +kernel)) (by decide +kernel)) rfl rfl rfl
theorem flX3_77 : FL RX3 77 5 3 true (.array .int) := FL.of ck5 (by decide) (by decide) (GW_mem (tm2 53 (by decide +kernel)) (by decide +kernel)) rfl rfl rfl
theorem flX3_93 : FL RX3 93 3 9 false .boolean := FL.of ck3 (by decide) (by decide) (GW_mem (tm2 195 (by decide +kernel)) (by decide +kernel)) rfl rfl rfl
theorem flX3_96 : FL RX3 96 10 5 false .int := FL.of ck10 (by decide) (by decide) (GW_mem (tm2 119 (by decide +kernel)) (by decide +kernel)) rfl rfl rfl
theorem flX3_99 : FL RX3 99 10 6 false .int := FL.of ck10 (by decide) (by decide) (GW_mem (tm2 122 (by decide +kernel)) (by decide +kernel)) rfl rfl rfl
theorem flX3_106 : FL RX3 106 2 1 false .int := FL.of ck2 (by decide) (by decide) (GW_mem (tm1 142 (by decide +kernel)) (by decide +kernel)) rfl rfl rfl
theorem flX3_111 : FL RX3 111 3 11 false .int := FL.of ck3 (by decide) (by decide) (GW_mem (tm2 199 (by decide +kernel)) (by decide +kernel)) rfl rfl rfl
theorem flX3_114 : FL RX3 114 4 2 true (.array .int) := FL.of ck4 (by decide) (by decide) (GW_mem (tm1 236 (by decide +kernel)) (by decide +kernel)) rfl rfl rfl
theorem flX3_123 : FL RX3 123 5 7 true (.array .int) := FL.of ck5 (by decide) (by decide) (GW_mem (tm2 65 (by decide +kernel)) (by decide +kernel)) rfl rfl rfl
theorem flX3_130 : FL RX3 130 5 4 true (.array .int) := FL.of ck5 (by decide) (by decide) (GW_mem (tm2 56 (by decide +kernel)) (by decide +kernel)) rfl rfl rfl
theorem flX3_133 : FL RX3 133 5 5 true (.array .int) := FL.of ck5 (by decide) (by decide) (GW_mem (tm2 59 (by decide +kernel)) (by decide +kernel)) rfl rfl rfl
theorem flX3_136 : FL RX3 136 5 6 true (.array .int) := FL.of ck5 (by decide) (by decide) (GW_mem (tm2 62 (by decide +kernel)) (by decide +kernel)) rfl rfl rfl
theorem flX3_152 : FL RX3 152 4 6 false .int := FL.of ck4 (by decide) (by decide) (GW_mem (tm2 9 (by decide +kernel)) (by decide +kernel)) rfl rfl rfl
theorem flX3_159 : FL RX3 159 4 7 false .int := FL.of ck4 (by decide) (by decide) (GW_mem (tm2 13 (by decide +kernel)) (by decide +kernel)) rfl rfl rfl
theorem flX3_166 : FL RX3 166 2 0 false .int := FL.of ck2 (by decide) (by decide) (GW_mem (tm1 138 (by decide +kernel)) (by decide +kernel)) rfl rfl rfl
theorem flX4_9 : FL RX4 9 4 0 true (.array .int) := FL.of ck4 (by decide) (by decide) (GW_mem (tm1 229 (by decide +kernel)) (by decide +kernel)) rfl rfl rfl
theorem flX4_15 : FL RX4 15 4 1 true (.array .int) := FL.of ck4 (by decide) (by decide) (GW_mem (tm1 232 (by decide +kernel)) (by decide +kernel)) rfl rfl rfl
theorem flX4_18 : FL RX4 18 4 2 true (.array .int) := FL.of ck4 (by decide) (by decide) (GW_mem (tm1 235 (by decide +kernel)) (by decide +kernel)) rfl rfl rfl
theorem flX4_21 : FL RX4 21 4 3 true (.array .int) := FL.of ck4 (by decide) (by decide) (GW_mem (tm1 239 (by decide +kernel)) (by decide +kernel)) rfl rfl rfl
theorem flX4_24 : FL RX4 24 4 4 true (.array .int) := FL.of ck4 (by decide) (by decide) (GW_mem (tm2 2 (by decide +kernel)) (by decide +kernel)) rfl rfl rfl
theorem flX4_27 : FL RX4 27 4 5 true (.array .int) := FL.of ck4 (by decide) (by decide) (GW_mem (tm2 5 (by decide +kernel)) (by decide +kernel)) rfl rfl rfl
theorem flX4_34 : FL RX4 34 2 1 false .int := FL.of ck2 (by decide) (by decide) (GW_mem (tm1 141 (by decide +kernel)) (by decide +kernel)) rfl rfl rfl
theorem flX4_40 : FL RX4 40 2 9 true (.array .int) := FL.of ck2 (by decide) (by decide) (GW_mem (tm1 171 (by decide +kernel)) (by decide +kernel)) rfl rfl rfl
theorem flX4_43 : FL RX4 43 4 6 false .int := FL.of ck4 (by decide) (by decide) (GW_mem (tm2 8 (by decide +kernel)) (by decide +kernel)) rfl rfl rfl
theorem flX4_46 : FL RX4 46 4 7 false .int := FL.of ck4 (by decide) (by decide) (GW_mem (tm2 12 (by decide +kernel)) (by decide +kernel)) rfl rfl rfl
theorem flX4_49 : FL RX4 49 4 8 false .int := FL.of ck4 (by decide) (by decide) (GW_mem (tm2 16 (by decide +kernel)) (by decide +kernel)) rfl rfl rfl
theorem flX5_9 : FL RX5 9 5 3 true (.array .int) := FL.of ck5 (by decide) (by decide) (GW_mem (tm2 52 (by decide +kernel)) (by decide +kernel)) rfl rfl rfl
theorem flX5_13 : FL RX5 13 5 4 true (.array .int) := FL.of ck5 (by decide) (by decide) (GW_mem (tm2 55 (by decide +kernel)) (by decide +kernel)) rfl rfl rfl
theorem flX5_16 : FL RX5 16 5 5 true (.array .int) := FL.of ck5 (by decide) (by decide) (GW_mem (tm2 58 (by decide +kernel)) (by decide +kernel)) rfl rfl rfl
theorem flX5_19 : FL RX5 19 5 6 true (.array .int) := FL.of ck5 (by decide) (by decide) (GW_mem (tm2 61 (by decide +kernel)) (by decide +kernel)) rfl rfl rfl
theorem flX5_22 : FL RX5 22 5 7 true (.array .int) := FL.of ck5 (by decide) (by decide) (GW_mem (tm2 64 (by decide +kernel)) (by decide +kernel)) rfl rfl rfl
theorem flX5_25 : FL RX5 25 5 0 false .boolean := FL.of ck5 (by decide) (by decide) (GW_mem (tm2 43 (by decide +kernel)) (by decide +kernel)) rfl rfl rfl
theorem flX5_29 : FL RX5 29 5 1 false .int := FL.of ck5 (by decide) (by decide) (GW_mem (tm2 46 (by decide +kernel)) (by decide +kernel)) rfl rfl rfl
theorem flX5_33 : FL RX5 33 5 2 false .int := FL.of ck5 (by decide) (by decide) (GW_mem (tm2 49 (by decide +kernel)) (by decide +kernel)) rfl rfl rfl
theorem flX6_11 : FL RX6 11 6 0 true (.array .byte) := FL.of ck6 (by decide) (by decide) (GW_mem (tm1 37 (by decide +kernel)) (by decide +kernel)) rfl rfl rfl
theorem flX6_15 : FL RX6 15 6 1 false .int := FL.of ck6 (by decide) (by decide) (GW_mem (tm1 38 (by decide +kernel)) (by decide +kernel)) rfl rfl rfl
theorem flX6_25 : FL RX6 25 6 2 false .int := FL.of ck6 (by decide) (by decide) (GW_mem (tm1 40 (by decide +kernel)) (by decide +kernel)) rfl rfl rfl
theorem flX6_28 : FL RX6 28 6 4 false .int := FL.of ck6 (by decide) (by decide) (GW_mem (tm1 42 (by decide +kernel)) (by decide +kernel)) rfl rfl rfl
theorem flX6_31 : FL RX6 31 6 11 false .int := FL.of ck6 (by decide) (by decide) (GW_mem (tm1 56 (by decide +kernel)) (by decide +kernel)) rfl rfl rfl
theorem flX6_34 : FL RX6 34 6 12 false .int := FL.of ck6 (by decide) (by decide) (GW_mem (tm1 58 (by decide +kernel)) (by decide +kernel)) rfl rfl rfl
theorem flX6_40 : FL RX6 40 6 3 false .int := FL.of ck6 (by decide) (by decide) (GW_mem (tm1 41 (by decide +kernel)) (by decide +kernel)) rfl rfl rfl
theorem flX6_43 : FL RX6 43 6 6 false .int := FL.of ck6 (by decide) (by decide) (GW_mem (tm1 48 (by decide +kernel)) (by decide +kernel)) rfl rfl rfl
theorem flX6_46 : FL RX6 46 6 5 false .int := FL.of ck6 (by decide) (by decide) (GW_mem (tm1 45 (by decide +kernel)) (by decide +kernel)) rfl rfl rfl
theorem flX6_55 : FL RX6 55 6 7 false .int := FL.of ck6 (by decide) (by decide) (GW_mem (tm1 49 (by decide +kernel)) (by decide +kernel)) rfl rfl rfl
theorem flX6_62 : FL RX6 62 6 8 false .long := FL.of ck6 (by decide) (by decide) (GW_mem (tm1 51 (by decide +kernel)) (by decide +kernel)) rfl rfl rfl
theorem flX6_66 : Cond.fieldLink RX6 66 "VaneTown$Text" "KEYWORDS" "[J" ∈ GW := GW_mem (tm3 161 (by decide +kernel)) (by decide +kernel)
theorem flX6_70 : FL RX6 70 6 9 false .int := FL.of ck6 (by decide) (by decide) (GW_mem (tm1 52 (by decide +kernel)) (by decide +kernel)) rfl rfl rfl
theorem flX6_80 : FL RX6 80 6 10 false .int := FL.of ck6 (by decide) (by decide) (GW_mem (tm1 55 (by decide +kernel)) (by decide +kernel)) rfl rfl rfl
theorem flX7_10 : FL RX7 10 7 0 false (.object "VaneTown$Plan") := FL.of ck7 (by decide) (by decide) (GW_mem (tm2 84 (by decide +kernel)) (by decide +kernel)) rfl rfl rfl
theorem flX7_19 : FL RX7 19 7 1 true (.object "VaneTown$State") := FL.of ck7 (by decide) (by decide) (GW_mem (tm2 87 (by decide +kernel)) (by decide +kernel)) rfl rfl rfl
theorem flX7_26 : FL RX7 26 7 2 false (.object "VaneTown$Steps") := FL.of ck7 (by decide) (by decide) (GW_mem (tm2 90 (by decide +kernel)) (by decide +kernel)) rfl rfl rfl
theorem flX8_9 : FL RX8 9 8 0 false .int := FL.of ck8 (by decide) (by decide) (GW_mem (tm2 235 (by decide +kernel)) (by decide +kernel)) rfl rfl rfl
theorem flX8_15 : FL RX8 15 8 2 true (.array .long) := FL.of ck8 (by decide) (by decide) (GW_mem (tm2 239 (by decide +kernel)) (by decide +kernel)) rfl rfl rfl
theorem flX8_19 : FL RX8 19 8 1 false .int := FL.of ck8 (by decide) (by decide) (GW_mem (tm2 237 (by decide +kernel)) (by decide +kernel)) rfl rfl rfl
theorem flX9_9 : FL RX9 9 9 0 false (.object "VaneTown$Text") := FL.of ck9 (by decide) (by decide) (GW_mem (tm1 94 (by decide +kernel)) (by decide +kernel)) rfl rfl rfl
theorem flX9_15 : FL RX9 15 9 1 false (.object "VaneTown$Plan") := FL.of ck9 (by decide) (by decide) (GW_mem (tm1 95 (by decide +kernel)) (by decide +kernel)) rfl rfl rfl
theorem flX9_26 : FL RX9 26 6 5 false .int := FL.of ck6 (by decide) (by decide) (GW_mem (tm1 43 (by decide +kernel)) (by decide +kernel)) rfl rfl rfl
theorem flX9_34 : FL RX9 34 6 6 false .int := FL.of ck6 (by decide) (by decide) (GW_mem (tm1 46 (by decide +kernel)) (by decide +kernel)) rfl rfl rfl
theorem flX9_37 : FL RX9 37 2 0 false .int := FL.of ck2 (by decide) (by decide) (GW_mem (tm1 137 (by decide +kernel)) (by decide +kernel)) rfl rfl rfl
theorem flX9_47 : FL RX9 47 2 1 false .int := FL.of ck2 (by decide) (by decide) (GW_mem (tm1 143 (by decide +kernel)) (by decide +kernel)) rfl rfl rfl
theorem flX9_53 : FL RX9 53 2 2 false .int := FL.of ck2 (by decide) (by decide) (GW_mem (tm1 148 (by decide +kernel)) (by decide +kernel)) rfl rfl rfl
theorem flX9_65 : FL RX9 65 6 8 false .long := FL.of ck6 (by decide) (by decide) (GW_mem (tm1 50 (by decide +kernel)) (by decide +kernel)) rfl rfl rfl
theorem flX9_76 : FL RX9 76 2 3 true (.array .long) := FL.of ck2 (by decide) (by decide) (GW_mem (tm1 153 (by decide +kernel)) (by decide +kernel)) rfl rfl rfl
theorem flX9_80 : FL RX9 80 2 4 true (.array .long) := FL.of ck2 (by decide) (by decide) (GW_mem (tm1 155 (by decide +kernel)) (by decide +kernel)) rfl rfl rfl
theorem flX9_90 : FL RX9 90 2 6 true (.array .int) := FL.of ck2 (by decide) (by decide) (GW_mem (tm1 159 (by decide +kernel)) (by decide +kernel)) rfl rfl rfl
theorem flX9_94 : FL RX9 94 6 10 false .int := FL.of ck6 (by decide) (by decide) (GW_mem (tm1 53 (by decide +kernel)) (by decide +kernel)) rfl rfl rfl
theorem flX9_100 : FL RX9 100 2 7 true (.array .int) := FL.of ck2 (by decide) (by decide) (GW_mem (tm1 163 (by decide +kernel)) (by decide +kernel)) rfl rfl rfl
theorem flX9_106 : FL RX9 106 2 8 true (.array .int) := FL.of ck2 (by decide) (by decide) (GW_mem (tm1 167 (by decide +kernel)) (by decide +kernel)) rfl rfl rfl
theorem flX9_109 : FL RX9 109 2 9 true (.array .int) := FL.of ck2 (by decide) (by decide) (GW_mem (tm1 172 (by decide +kernel)) (by decide +kernel)) rfl rfl rfl
theorem flX9_112 : FL RX9 112 2 12 true (.array .int) := FL.of ck2 (by decide) (by decide) (GW_mem (tm1 185 (by decide +kernel)) (by decide +kernel)) rfl rfl rfl
theorem flX9_115 : FL RX9 115 2 5 true (.array .long) := FL.of ck2 (by decide) (by decide) (GW_mem (tm1 157 (by decide +kernel)) (by decide +kernel)) rfl rfl rfl
theorem flX9_121 : FL RX9 121 2 10 true (.array .int) := FL.of ck2 (by decide) (by decide) (GW_mem (tm1 175 (by decide +kernel)) (by decide +kernel)) rfl rfl rfl
theorem flX9_131 : FL RX9 131 2 11 true (.array .int) := FL.of ck2 (by decide) (by decide) (GW_mem (tm1 180 (by decide +kernel)) (by decide +kernel)) rfl rfl rfl
theorem flX9_134 : FL RX9 134 2 13 true (.array .int) := FL.of ck2 (by decide) (by decide) (GW_mem (tm1 189 (by decide +kernel)) (by decide +kernel)) rfl rfl rfl
theorem flX10_9 : FL RX10 9 10 2 true (.array .int) := FL.of ck10 (by decide) (by decide) (GW_mem (tm2 113 (by decide +kernel)) (by decide +kernel)) rfl rfl rfl
theorem flX10_15 : FL RX10 15 10 3 true (.array .int) := FL.of ck10 (by decide) (by decide) (GW_mem (tm2 115 (by decide +kernel)) (by decide +kernel)) rfl rfl rfl
theorem flX10_18 : FL RX10 18 10 0 false (.object "VaneTown$Plan") := FL.of ck10 (by decide) (by decide) (GW_mem (tm2 111 (by decide +kernel)) (by decide +kernel)) rfl rfl rfl
theorem flX10_22 : FL RX10 22 10 1 false (.object "VaneTown$State") := FL.of ck10 (by decide) (by decide) (GW_mem (tm2 112 (by decide +kernel)) (by decide +kernel)) rfl rfl rfl
theorem flX10_26 : FL RX10 26 10 5 false .int := FL.of ck10 (by decide) (by decide) (GW_mem (tm2 118 (by decide +kernel)) (by decide +kernel)) rfl rfl rfl
theorem flX10_30 : FL RX10 30 10 6 false .int := FL.of ck10 (by decide) (by decide) (GW_mem (tm2 121 (by decide +kernel)) (by decide +kernel)) rfl rfl rfl
theorem flX10_40 : FL RX10 40 10 7 false .int := FL.of ck10 (by decide) (by decide) (GW_mem (tm2 123 (by decide +kernel)) (by decide +kernel)) rfl rfl rfl
theorem flX10_43 : FL RX10 43 10 8 false .int := FL.of ck10 (by decide) (by decide) (GW_mem (tm2 124 (by decide +kernel)) (by decide +kernel)) rfl rfl rfl
theorem flX10_46 : FL RX10 46 4 0 true (.array .int) := FL.of ck4 (by decide) (by decide) (GW_mem (tm1 230 (by decide +kernel)) (by decide +kernel)) rfl rfl rfl
theorem flX10_51 : FL RX10 51 4 1 true (.array .int) := FL.of ck4 (by decide) (by decide) (GW_mem (tm1 233 (by decide +kernel)) (by decide +kernel)) rfl rfl rfl
theorem flX10_58 : FL RX10 58 2 1 false .int := FL.of ck2 (by decide) (by decide) (GW_mem (tm1 145 (by decide +kernel)) (by decide +kernel)) rfl rfl rfl
theorem flX10_63 : FL RX10 63 2 6 true (.array .int) := FL.of ck2 (by decide) (by decide) (GW_mem (tm1 160 (by decide +kernel)) (by decide +kernel)) rfl rfl rfl
theorem flX10_66 : FL RX10 66 2 7 true (.array .int) := FL.of ck2 (by decide) (by decide) (GW_mem (tm1 164 (by decide +kernel)) (by decide +kernel)) rfl rfl rfl
theorem flX10_69 : FL RX10 69 4 2 true (.array .int) := FL.of ck4 (by decide) (by decide) (GW_mem (tm1 237 (by decide +kernel)) (by decide +kernel)) rfl rfl rfl
theorem flX10_84 : FL RX10 84 10 4 false .int := FL.of ck10 (by decide) (by decide) (GW_mem (tm2 116 (by decide +kernel)) (by decide +kernel)) rfl rfl rfl
theorem flX10_91 : FL RX10 91 2 10 true (.array .int) := FL.of ck2 (by decide) (by decide) (GW_mem (tm1 176 (by decide +kernel)) (by decide +kernel)) rfl rfl rfl
theorem flX10_94 : FL RX10 94 2 11 true (.array .int) := FL.of ck2 (by decide) (by decide) (GW_mem (tm1 181 (by decide +kernel)) (by decide +kernel)) rfl rfl rfl
theorem flX10_97 : FL RX10 97 2 12 true (.array .int) := FL.of ck2 (by decide) (by decide) (GW_mem (tm1 186 (by decide +kernel)) (by decide +kernel)) rfl rfl rfl
theorem flX10_100 : FL RX10 100 4 7 false .int := FL.of ck4 (by decide) (by decide) (GW_mem (tm2 15 (by decide +kernel)) (by decide +kernel)) rfl rfl rfl
theorem flX10_107 : FL RX10 107 2 2 false .int := FL.of ck2 (by decide) (by decide) (GW_mem (tm1 151 (by decide +kernel)) (by decide +kernel)) rfl rfl rfl
theorem flX10_110 : FL RX10 110 4 6 false .int := FL.of ck4 (by decide) (by decide) (GW_mem (tm2 11 (by decide +kernel)) (by decide +kernel)) rfl rfl rfl
theorem flX10_117 : FL RX10 117 4 5 true (.array .int) := FL.of ck4 (by decide) (by decide) (GW_mem (tm2 6 (by decide +kernel)) (by decide +kernel)) rfl rfl rfl
theorem flX10_127 : FL RX10 127 2 13 true (.array .int) := FL.of ck2 (by decide) (by decide) (GW_mem (tm1 192 (by decide +kernel)) (by decide +kernel)) rfl rfl rfl
theorem flX10_136 : FL RX10 136 4 3 true (.array .int) := FL.of ck4 (by decide) (by decide) (GW_mem (tm2 1 (by decide +kernel)) (by decide +kernel)) rfl rfl rfl
theorem flX10_139 : FL RX10 139 4 4 true (.array .int) := FL.of ck4 (by decide) (by decide) (GW_mem (tm2 4 (by decide +kernel)) (by decide +kernel)) rfl rfl rfl
theorem flX10_159 : FL RX10 159 2 8 true (.array .int) := FL.of ck2 (by decide) (by decide) (GW_mem (tm1 169 (by decide +kernel)) (by decide +kernel)) rfl rfl rfl
theorem flX12_7 : FL RX12 7 12 0 true (.array .int) := FL.of ck12 (by decide) (by decide) (GW_mem (tm6 111 (by decide +kernel)) (by decide +kernel)) rfl rfl rfl
theorem flX12_13 : FL RX12 13 12 1 true (.array .long) := FL.of ck12 (by decide) (by decide) (GW_mem (tm6 112 (by decide +kernel)) (by decide +kernel)) rfl rfl rfl
theorem flX12_17 : FL RX12 17 12 4 false .long := FL.of ck12 (by decide) (by decide) (GW_mem (tm6 115 (by decide +kernel)) (by decide +kernel)) rfl rfl rfl
theorem flX12_21 : FL RX12 21 12 5 true (.array .int) := FL.of ck12 (by decide) (by decide) (GW_mem (tm6 116 (by decide +kernel)) (by decide +kernel)) rfl rfl rfl
theorem flX12_24 : FL RX12 24 12 6 true (.array .int) := FL.of ck12 (by decide) (by decide) (GW_mem (tm6 117 (by decide +kernel)) (by decide +kernel)) rfl rfl rfl
theorem flX12_27 : FL RX12 27 12 7 true (.array .long) := FL.of ck12 (by decide) (by decide) (GW_mem (tm6 118 (by decide +kernel)) (by decide +kernel)) rfl rfl rfl
theorem flX12_30 : FL RX12 30 12 8 true (.array .byte) := FL.of ck12 (by decide) (by decide) (GW_mem (tm6 119 (by decide +kernel)) (by decide +kernel)) rfl rfl rfl
theorem flX12_34 : FL RX12 34 12 9 true (.array .byte) := FL.of ck12 (by decide) (by decide) (GW_mem (tm6 120 (by decide +kernel)) (by decide +kernel)) rfl rfl rfl
theorem flX12_37 : FL RX12 37 12 16 false .int := FL.of ck12 (by decide) (by decide) (GW_mem (tm6 127 (by decide +kernel)) (by decide +kernel)) rfl rfl rfl
theorem flX12_41 : FL RX12 41 12 17 false .int := FL.of ck12 (by decide) (by decide) (GW_mem (tm6 128 (by decide +kernel)) (by decide +kernel)) rfl rfl rfl
theorem flX12_44 : FL RX12 44 12 21 true (.array .int) := FL.of ck12 (by decide) (by decide) (GW_mem (tm6 132 (by decide +kernel)) (by decide +kernel)) rfl rfl rfl
theorem flX12_47 : FL RX12 47 12 24 true (.array .int) := FL.of ck12 (by decide) (by decide) (GW_mem (tm6 135 (by decide +kernel)) (by decide +kernel)) rfl rfl rfl
theorem flX12_50 : FL RX12 50 12 25 true (.array .int) := FL.of ck12 (by decide) (by decide) (GW_mem (tm6 136 (by decide +kernel)) (by decide +kernel)) rfl rfl rfl
theorem flX12_53 : FL RX12 53 12 30 true (.array .int) := FL.of ck12 (by decide) (by decide) (GW_mem (tm6 141 (by decide +kernel)) (by decide +kernel)) rfl rfl rfl
theorem flX12_56 : FL RX12 56 12 31 true (.array .int) := FL.of ck12 (by decide) (by decide) (GW_mem (tm6 142 (by decide +kernel)) (by decide +kernel)) rfl rfl rfl
theorem flX12_59 : FL RX12 59 12 33 true (.array .int) := FL.of ck12 (by decide) (by decide) (GW_mem (tm6 144 (by decide +kernel)) (by decide +kernel)) rfl rfl rfl
theorem flX12_62 : FL RX12 62 12 34 true (.array .int) := FL.of ck12 (by decide) (by decide) (GW_mem (tm6 145 (by decide +kernel)) (by decide +kernel)) rfl rfl rfl
theorem flX12_65 : FL RX12 65 12 39 true (.array .int) := FL.of ck12 (by decide) (by decide) (GW_mem (tm6 150 (by decide +kernel)) (by decide +kernel)) rfl rfl rfl
theorem flX12_68 : FL RX12 68 12 40 true (.array .int) := FL.of ck12 (by decide) (by decide) (GW_mem (tm6 151 (by decide +kernel)) (by decide +kernel)) rfl rfl rfl
theorem flX12_71 : FL RX12 71 12 41 true (.array .int) := FL.of ck12 (by decide) (by decide) (GW_mem (tm6 152 (by decide +kernel)) (by decide +kernel)) rfl rfl rfl
theorem flX12_74 : FL RX12 74 12 42 false .int := FL.of ck12 (by decide) (by decide) (GW_mem (tm6 153 (by decide +kernel)) (by decide +kernel)) rfl rfl rfl
theorem flX12_77 : FL RX12 77 12 2 false .int := FL.of ck12 (by decide) (by decide) (GW_mem (tm6 113 (by decide +kernel)) (by decide +kernel)) rfl rfl rfl
theorem flX12_80 : FL RX12 80 12 3 false .long := FL.of ck12 (by decide) (by decide) (GW_mem (tm6 114 (by decide +kernel)) (by decide +kernel)) rfl rfl rfl
theorem flX12_107 : FL RX12 107 12 10 false .int := FL.of ck12 (by decide) (by decide) (GW_mem (tm6 121 (by decide +kernel)) (by decide +kernel)) rfl rfl rfl
theorem flX12_114 : FL RX12 114 12 11 false .int := FL.of ck12 (by decide) (by decide) (GW_mem (tm6 122 (by decide +kernel)) (by decide +kernel)) rfl rfl rfl
theorem flX12_117 : FL RX12 117 12 14 false .int := FL.of ck12 (by decide) (by decide) (GW_mem (tm6 125 (by decide +kernel)) (by decide +kernel)) rfl rfl rfl
theorem flX12_123 : FL RX12 123 12 13 false .int := FL.of ck12 (by decide) (by decide) (GW_mem (tm6 124 (by decide +kernel)) (by decide +kernel)) rfl rfl rfl
theorem flX12_126 : FL RX12 126 12 15 false .int := FL.of ck12 (by decide) (by decide) (GW_mem (tm6 126 (by decide +kernel)) (by decide +kernel)) rfl rfl rfl
theorem flX12_129 : FL RX12 129 12 12 false .int := FL.of ck12 (by decide) (by decide) (GW_mem (tm6 123 (by decide +kernel)) (by decide +kernel)) rfl rfl rfl
theorem flX12_154 : FL RX12 154 12 18 false .int := FL.of ck12 (by decide) (by decide) (GW_mem (tm6 129 (by decide +kernel)) (by decide +kernel)) rfl rfl rfl
theorem flX12_157 : FL RX12 157 12 19 false .int := FL.of ck12 (by decide) (by decide) (GW_mem (tm6 130 (by decide +kernel)) (by decide +kernel)) rfl rfl rfl
theorem flX12_190 : FL RX12 190 12 20 false .int := FL.of ck12 (by decide) (by decide) (GW_mem (tm6 131 (by decide +kernel)) (by decide +kernel)) rfl rfl rfl
theorem flX12_232 : FL RX12 232 12 22 false .int := FL.of ck12 (by decide) (by decide) (GW_mem (tm6 133 (by decide +kernel)) (by decide +kernel)) rfl rfl rfl
theorem flX12_235 : FL RX12 235 12 23 false .int := FL.of ck12 (by decide) (by decide) (GW_mem (tm6 134 (by decide +kernel)) (by decide +kernel)) rfl rfl rfl
theorem flX12_282 : FL RX12 282 12 27 false .int := FL.of ck12 (by decide) (by decide) (GW_mem (tm6 138 (by decide +kernel)) (by decide +kernel)) rfl rfl rfl
theorem flX12_285 : FL RX12 285 12 26 false .int := FL.of ck12 (by decide) (by decide) (GW_mem (tm6 137 (by decide +kernel)) (by decide +kernel)) rfl rfl rfl
theorem flX12_291 : FL RX12 291 12 28 false .int := FL.of ck12 (by decide) (by decide) (GW_mem (tm6 139 (by decide +kernel)) (by decide +kernel)) rfl rfl rfl
theorem flX12_309 : FL RX12 309 12 29 false .boolean := FL.of ck12 (by decide) (by decide) (GW_mem (tm6 140 (by decide +kernel)) (by decide +kernel)) rfl rfl rfl
theorem flX12_342 : FL RX12 342 12 32 false .int := FL.of ck12 (by decide) (by decide) (GW_mem (tm6 143 (by decide +kernel)) (by decide +kernel)) rfl rfl rfl
theorem flX12_398 : FL RX12 398 12 35 false .int := FL.of ck12 (by decide) (by decide) (GW_mem (tm6 146 (by decide +kernel)) (by decide +kernel)) rfl rfl rfl
theorem flX12_405 : FL RX12 405 12 37 false .int := FL.of ck12 (by decide) (by decide) (GW_mem (tm6 148 (by decide +kernel)) (by decide +kernel)) rfl rfl rfl
theorem flX12_408 : FL RX12 408 12 43 false .int := FL.of ck12 (by decide) (by decide) (GW_mem (tm6 154 (by decide +kernel)) (by decide +kernel)) rfl rfl rfl
theorem flX12_411 : FL RX12 411 12 36 false .int := FL.of ck12 (by decide) (by decide) (GW_mem (tm6 147 (by decide +kernel)) (by decide +kernel)) rfl rfl rfl
theorem flX12_414 : FL RX12 414 12 38 false .int := FL.of ck12 (by decide) (by decide) (GW_mem (tm6 149 (by decide +kernel)) (by decide +kernel)) rfl rfl rfl
theorem flX12_433 : FL RX12 433 12 44 false .int := FL.of ck12 (by decide) (by decide) (GW_mem (tm6 155 (by decide +kernel)) (by decide +kernel)) rfl rfl rfl
theorem flJ0_9 : Cond.fieldLink RJ0 9 "java/lang/String" "value" "[B" ∈ GW := GW_mem (tm9 117 (by decide +kernel)) (by decide +kernel)
theorem flJ0_15 : Cond.fieldLink RJ0 15 "java/lang/String" "coder" "B" ∈ GW := GW_mem (tm9 118 (by decide +kernel)) (by decide +kernel)
theorem flJ0_38 : Cond.fieldLink RJ0 38 "java/lang/String" "COMPACT_STRINGS" "Z" ∈ GW := GW_mem (tm7 107 (by decide +kernel)) (by decide +kernel)
theorem flJ0_1053 : Cond.fieldLink RJ0 1053 "jdk/internal/util/Preconditions" "SIOOBE_FORMATTER" "Ljava/util/function/BiFunction;" ∈ GW := GW_mem (tm7 123 (by decide +kernel)) (by decide +kernel)
theorem flJ2_44 : Cond.fieldLink RJ2 44 "java/lang/StringUTF16" "$assertionsDisabled" "Z" ∈ GW := GW_mem (tm7 141 (by decide +kernel)) (by decide +kernel)
theorem flJ2_59 : Cond.fieldLink RJ2 59 "java/lang/StringUTF16" "HI_BYTE_SHIFT" "I" ∈ GW := GW_mem (tm7 143 (by decide +kernel)) (by decide +kernel)
theorem flJ2_63 : Cond.fieldLink RJ2 63 "java/lang/StringUTF16" "LO_BYTE_SHIFT" "I" ∈ GW := GW_mem (tm7 145 (by decide +kernel)) (by decide +kernel)
abbrev mX0_init : MI := (yX0_init, cX0_init, 1, none)
abbrev mX0_search : MI := (yX0_search, cX0_search, 5, none)
theorem mvX0_search : MV mX0_search 0 3 := ⟨⟨_, _, rfl⟩, by decide, GW_mem (tm5 26 (by decide +kernel)) (by decide +kernel), GW_mem (tm5 27 (by decide +kernel)) (by decide +kernel), GW_mem (tm1 10 (by decide +kernel)) (by decide +kernel), GW_mem (tm5 28 (by decide +kernel)) (by decide +kernel), ⟨by decide +kernel, by decide +kernel⟩, by decide +kernel, by decide⟩
abbrev mX0_find : MI := (yX0_find, cX0_find, 3, none)
theorem mvX0_find : MV mX0_find 0 2 := ⟨⟨_, _, rfl⟩, by decide, GW_mem (tm5 31 (by decide +kernel)) (by decide +kernel), GW_mem (tp3 (q := (yX0_find, 7)) 6 (by decide +kernel)) (by decide +kernel), GW_mem (tm1 10 (by decide +kernel)) (by decide +kernel), GW_mem (tm5 32 (by decide +kernel)) (by decide +kernel), ⟨by decide +kernel, by decide +kernel⟩, by decide +kernel, by decide⟩
abbrev mX0_findFrom : MI := (yX0_findFrom, cX0_findFrom, 4, none)
theorem mvX0_findFrom : MV mX0_findFrom 0 1 := ⟨⟨_, _, rfl⟩, by decide, GW_mem (tm5 37 (by decide +kernel)) (by decide +kernel), GW_mem (tp3 (q := (yX0_findFrom, 7)) 7 (by decide +kernel)) (by decide +kernel), GW_mem (tm1 10 (by decide +kernel)) (by decide +kernel), GW_mem (tm5 38 (by decide +kernel)) (by decide +kernel), ⟨by decide +kernel, by decide +kernel⟩, by decide +kernel, by decide⟩
abbrev mX0_lockedVanes : MI := (yX0_lockedVanes, cX0_lockedVanes, 6, (some .int))
theorem mvX0_lockedVanes : MV mX0_lockedVanes 0 2 := ⟨⟨_, _, rfl⟩, by decide, GW_mem (tm5 59 (by decide +kernel)) (by decide +kernel), GW_mem (tm5 60 (by decide +kernel)) (by decide +kernel), GW_mem (tm1 10 (by decide +kernel)) (by decide +kernel), GW_mem (tm5 61 (by decide +kernel)) (by decide +kernel), ⟨by decide +kernel, by decide +kernel⟩, by decide +kernel, by decide⟩
abbrev mX0_turnsBothWays : MI := (yX0_turnsBothWays, cX0_turnsBothWays, 4, (some .boolean))
theorem mvX0_turnsBothWays : MV mX0_turnsBothWays 0 0 := ⟨⟨_, _, rfl⟩, by decide, GW_mem (tm5 65 (by decide +kernel)) (by decide +kernel), GW_mem (tp3 (q := (yX0_turnsBothWays, 7)) 9 (by decide +kernel)) (by decide +kernel), GW_mem (tm1 10 (by decide +kernel)) (by decide +kernel), GW_mem (tm5 66 (by decide +kernel)) (by decide +kernel), ⟨by decide +kernel, by decide +kernel⟩, by decide +kernel, by decide⟩
abbrev mX0_leastSlack : MI := (yX0_leastSlack, cX0_leastSlack, 6, (some .int))
theorem mvX0_leastSlack : MV mX0_leastSlack 0 4 := ⟨⟨_, _, rfl⟩, by decide, GW_mem (tm5 79 (by decide +kernel)) (by decide +kernel), GW_mem (tm5 80 (by decide +kernel)) (by decide +kernel), GW_mem (tm1 10 (by decide +kernel)) (by decide +kernel), GW_mem (tm5 81 (by decide +kernel)) (by decide +kernel), ⟨by decide +kernel, by decide +kernel⟩, by decide +kernel, by decide⟩
abbrev mX0_spreadSlack : MI := (yX0_spreadSlack, cX0_spreadSlack, 4, none)
theorem mvX0_spreadSlack : MV mX0_spreadSlack 0 0 := ⟨⟨_, _, rfl⟩, by decide, GW_mem (tm5 84 (by decide +kernel)) (by decide +kernel), GW_mem (tp3 (q := (yX0_spreadSlack, 7)) 10 (by decide +kernel)) (by decide +kernel), GW_mem (tm1 10 (by decide +kernel)) (by decide +kernel), GW_mem (tm5 85 (by decide +kernel)) (by decide +kernel), ⟨by decide +kernel, by decide +kernel⟩, by decide +kernel, by decide⟩
abbrev mX0_partingShafts : MI := (yX0_partingShafts, cX0_partingShafts, 5, (some .int))
theorem mvX0_partingShafts : MV mX0_partingShafts 0 2 := ⟨⟨_, _, rfl⟩, by decide, GW_mem (tm5 225 (by decide +kernel)) (by decide +kernel), GW_mem (tm5 226 (by decide +kernel)) (by decide +kernel), GW_mem (tm1 10 (by decide +kernel)) (by decide +kernel), GW_mem (tm5 227 (by decide +kernel)) (by decide +kernel), ⟨by decide +kernel, by decide +kernel⟩, by decide +kernel, by decide⟩
abbrev mX1_init : MI := (yX1_init, cX1_init, 1, none)
abbrev mX1_readAll : MI := (yX1_readAll, cX1_readAll, 5, (some .boolean))
theorem mvX1_readAll : MV mX1_readAll 1 3 := ⟨⟨_, _, rfl⟩, by decide, GW_mem (tm4 50 (by decide +kernel)) (by decide +kernel), GW_mem (tm4 51 (by decide +kernel)) (by decide +kernel), GW_mem (tm1 4 (by decide +kernel)) (by decide +kernel), GW_mem (tm4 52 (by decide +kernel)) (by decide +kernel), ⟨by decide +kernel, by decide +kernel⟩, by decide +kernel, by decide⟩
abbrev mX1_readRow : MI := (yX1_readRow, cX1_readRow, 5, (some .boolean))
theorem mvX1_readRow : MV mX1_readRow 1 0 := ⟨⟨_, _, rfl⟩, by decide, GW_mem (tm4 56 (by decide +kernel)) (by decide +kernel), GW_mem (tp1 (q := (yX1_readRow, 5)) 14 (by decide +kernel)) (by decide +kernel), GW_mem (tm1 4 (by decide +kernel)) (by decide +kernel), GW_mem (tm4 57 (by decide +kernel)) (by decide +kernel), ⟨by decide +kernel, by decide +kernel⟩, by decide +kernel, by decide⟩
abbrev mX1_readEnd : MI := (yX1_readEnd, cX1_readEnd, 2, (some .boolean))
theorem mvX1_readEnd : MV mX1_readEnd 1 0 := ⟨⟨_, _, rfl⟩, by decide, GW_mem (tm4 60 (by decide +kernel)) (by decide +kernel), GW_mem (tp1 (q := (yX1_readEnd, 5)) 15 (by decide +kernel)) (by decide +kernel), GW_mem (tm1 4 (by decide +kernel)) (by decide +kernel), GW_mem (tm4 61 (by decide +kernel)) (by decide +kernel), ⟨by decide +kernel, by decide +kernel⟩, by decide +kernel, by decide⟩
abbrev mX1_addRow : MI := (yX1_addRow, cX1_addRow, 2, none)
theorem mvX1_addRow : MV mX1_addRow 1 1 := ⟨⟨_, _, rfl⟩, by decide, GW_mem (tm4 66 (by decide +kernel)) (by decide +kernel), GW_mem (tp2 (q := (yX1_addRow, 5)) 0 (by decide +kernel)) (by decide +kernel), GW_mem (tm1 4 (by decide +kernel)) (by decide +kernel), GW_mem (tm4 67 (by decide +kernel)) (by decide +kernel), ⟨by decide +kernel, by decide +kernel⟩, by decide +kernel, by decide⟩
abbrev mX1_isStep : MI := (yX1_isStep, cX1_isStep, 1, (some .boolean))
theorem msX1_isStep : MS mX1_isStep 1 := ⟨GW_mem (tm4 70 (by decide +kernel)) (by decide +kernel), GW_mem (tm1 4 (by decide +kernel)) (by decide +kernel), GW_mem (tm4 71 (by decide +kernel)) (by decide +kernel), ⟨by decide +kernel, by decide +kernel⟩, by decide +kernel, by decide⟩
abbrev mX1_readNumbers : MI := (yX1_readNumbers, cX1_readNumbers, 3, (some .boolean))
theorem mvX1_readNumbers : MV mX1_readNumbers 1 2 := ⟨⟨_, _, rfl⟩, by decide, GW_mem (tm4 98 (by decide +kernel)) (by decide +kernel), GW_mem (tp2 (q := (yX1_readNumbers, 5)) 5 (by decide +kernel)) (by decide +kernel), GW_mem (tm1 4 (by decide +kernel)) (by decide +kernel), GW_mem (tm4 99 (by decide +kernel)) (by decide +kernel), ⟨by decide +kernel, by decide +kernel⟩, by decide +kernel, by decide⟩
abbrev mX1_readTest : MI := (yX1_readTest, cX1_readTest, 2, (some .boolean))
theorem mvX1_readTest : MV mX1_readTest 1 1 := ⟨⟨_, _, rfl⟩, by decide, GW_mem (tm4 75 (by decide +kernel)) (by decide +kernel), GW_mem (tp2 (q := (yX1_readTest, 5)) 1 (by decide +kernel)) (by decide +kernel), GW_mem (tm1 4 (by decide +kernel)) (by decide +kernel), GW_mem (tm4 76 (by decide +kernel)) (by decide +kernel), ⟨by decide +kernel, by decide +kernel⟩, by decide +kernel, by decide⟩
abbrev mX1_keepWhat : MI := (yX1_keepWhat, cX1_keepWhat, 2, (some .boolean))
theorem mvX1_keepWhat : MV mX1_keepWhat 1 1 := ⟨⟨_, _, rfl⟩, by decide, GW_mem (tm4 80 (by decide +kernel)) (by decide +kernel), GW_mem (tp2 (q := (yX1_keepWhat, 5)) 2 (by decide +kernel)) (by decide +kernel), GW_mem (tm1 4 (by decide +kernel)) (by decide +kernel), GW_mem (tm4 81 (by decide +kernel)) (by decide +kernel), ⟨by decide +kernel, by decide +kernel⟩, by decide +kernel, by decide⟩
abbrev mX1_keepHow : MI := (yX1_keepHow, cX1_keepHow, 2, (some .boolean))
theorem mvX1_keepHow : MV mX1_keepHow 1 1 := ⟨⟨_, _, rfl⟩, by decide, GW_mem (tm4 89 (by decide +kernel)) (by decide +kernel), GW_mem (tp2 (q := (yX1_keepHow, 5)) 3 (by decide +kernel)) (by decide +kernel), GW_mem (tm1 4 (by decide +kernel)) (by decide +kernel), GW_mem (tm4 90 (by decide +kernel)) (by decide +kernel), ⟨by decide +kernel, by decide +kernel⟩, by decide +kernel, by decide⟩
abbrev mX1_keepMuch : MI := (yX1_keepMuch, cX1_keepMuch, 2, (some .boolean))
theorem mvX1_keepMuch : MV mX1_keepMuch 1 1 := ⟨⟨_, _, rfl⟩, by decide, GW_mem (tm4 94 (by decide +kernel)) (by decide +kernel), GW_mem (tp2 (q := (yX1_keepMuch, 5)) 4 (by decide +kernel)) (by decide +kernel), GW_mem (tm1 4 (by decide +kernel)) (by decide +kernel), GW_mem (tm4 95 (by decide +kernel)) (by decide +kernel), ⟨by decide +kernel, by decide +kernel⟩, by decide +kernel, by decide⟩
abbrev mX2_init : MI := (yX2_init, cX2_init, 1, none)
abbrev mX2_clear : MI := (yX2_clear, cX2_clear, 1, none)
theorem mvX2_clear : MV mX2_clear 2 0 := ⟨⟨_, _, rfl⟩, by decide, GW_mem (tm3 175 (by decide +kernel)) (by decide +kernel), GW_mem (tm3 176 (by decide +kernel)) (by decide +kernel), GW_mem (tm1 6 (by decide +kernel)) (by decide +kernel), GW_mem (tm3 177 (by decide +kernel)) (by decide +kernel), ⟨by decide +kernel, by decide +kernel⟩, by decide +kernel, by decide⟩
abbrev mX2_placeNamed : MI := (yX2_placeNamed, cX2_placeNamed, 3, (some .int))
theorem mvX2_placeNamed : MV mX2_placeNamed 2 1 := ⟨⟨_, _, rfl⟩, by decide, GW_mem (tm3 208 (by decide +kernel)) (by decide +kernel), GW_mem (tm3 209 (by decide +kernel)) (by decide +kernel), GW_mem (tm1 6 (by decide +kernel)) (by decide +kernel), GW_mem (tm3 210 (by decide +kernel)) (by decide +kernel), ⟨by decide +kernel, by decide +kernel⟩, by decide +kernel, by decide⟩
abbrev mX2_vaneNamed : MI := (yX2_vaneNamed, cX2_vaneNamed, 3, (some .int))
theorem mvX2_vaneNamed : MV mX2_vaneNamed 2 1 := ⟨⟨_, _, rfl⟩, by decide, GW_mem (tm3 215 (by decide +kernel)) (by decide +kernel), GW_mem (tm3 216 (by decide +kernel)) (by decide +kernel), GW_mem (tm1 6 (by decide +kernel)) (by decide +kernel), GW_mem (tm3 217 (by decide +kernel)) (by decide +kernel), ⟨by decide +kernel, by decide +kernel⟩, by decide +kernel, by decide⟩
abbrev mX2_shaftNamed : MI := (yX2_shaftNamed, cX2_shaftNamed, 3, (some .int))
theorem mvX2_shaftNamed : MV mX2_shaftNamed 2 1 := ⟨⟨_, _, rfl⟩, by decide, GW_mem (tm3 219 (by decide +kernel)) (by decide +kernel), GW_mem (tm3 220 (by decide +kernel)) (by decide +kernel), GW_mem (tm1 6 (by decide +kernel)) (by decide +kernel), GW_mem (tm3 221 (by decide +kernel)) (by decide +kernel), ⟨by decide +kernel, by decide +kernel⟩, by decide +kernel, by decide⟩
abbrev mX2_isTaken : MI := (yX2_isTaken, cX2_isTaken, 3, (some .boolean))
theorem mvX2_isTaken : MV mX2_isTaken 2 1 := ⟨⟨_, _, rfl⟩, by decide, GW_mem (tm3 204 (by decide +kernel)) (by decide +kernel), GW_mem (tm3 205 (by decide +kernel)) (by decide +kernel), GW_mem (tm1 6 (by decide +kernel)) (by decide +kernel), GW_mem (tm3 206 (by decide +kernel)) (by decide +kernel), ⟨by decide +kernel, by decide +kernel⟩, by decide +kernel, by decide⟩
abbrev mX2_copyFrom : MI := (yX2_copyFrom, cX2_copyFrom, 2, none)
theorem mvX2_copyFrom : MV mX2_copyFrom 2 1 := ⟨⟨_, _, rfl⟩, by decide, GW_mem (tm6 91 (by decide +kernel)) (by decide +kernel), GW_mem (tm6 92 (by decide +kernel)) (by decide +kernel), GW_mem (tm1 6 (by decide +kernel)) (by decide +kernel), GW_mem (tm6 93 (by decide +kernel)) (by decide +kernel), ⟨by decide +kernel, by decide +kernel⟩, by decide +kernel, by decide⟩
abbrev mX2_indexIn : MI := (yX2_indexIn, cX2_indexIn, 5, (some .int))
theorem msX2_indexIn : MS mX2_indexIn 3 := ⟨GW_mem (tm3 212 (by decide +kernel)) (by decide +kernel), GW_mem (tm1 6 (by decide +kernel)) (by decide +kernel), GW_mem (tm3 213 (by decide +kernel)) (by decide +kernel), ⟨by decide +kernel, by decide +kernel⟩, by decide +kernel, by decide⟩
abbrev mX3_init : MI := (yX3_init, cX3_init, 1, none)
abbrev mX3_carryOut : MI := (yX3_carryOut, cX3_carryOut, 6, none)
theorem mvX3_carryOut : MV mX3_carryOut 3 3 := ⟨⟨_, _, rfl⟩, by decide, GW_mem (tm6 29 (by decide +kernel)) (by decide +kernel), GW_mem (tm6 30 (by decide +kernel)) (by decide +kernel), GW_mem (tm1 11 (by decide +kernel)) (by decide +kernel), GW_mem (tm6 31 (by decide +kernel)) (by decide +kernel), ⟨by decide +kernel, by decide +kernel⟩, by decide +kernel, by decide⟩
abbrev mX3_report : MI := (yX3_report, cX3_report, 2, none)
theorem mvX3_report : MV mX3_report 3 1 := ⟨⟨_, _, rfl⟩, by decide, GW_mem (tm6 65 (by decide +kernel)) (by decide +kernel), GW_mem (tm6 66 (by decide +kernel)) (by decide +kernel), GW_mem (tm1 11 (by decide +kernel)) (by decide +kernel), GW_mem (tm6 67 (by decide +kernel)) (by decide +kernel), ⟨by decide +kernel, by decide +kernel⟩, by decide +kernel, by decide⟩
abbrev mX3_rowBehindEnd : MI := (yX3_rowBehindEnd, cX3_rowBehindEnd, 3, (some .int))
theorem mvX3_rowBehindEnd : MV mX3_rowBehindEnd 3 1 := ⟨⟨_, _, rfl⟩, by decide, GW_mem (tm6 37 (by decide +kernel)) (by decide +kernel), GW_mem (tp4 (q := (yX3_rowBehindEnd, 13)) 6 (by decide +kernel)) (by decide +kernel), GW_mem (tm1 11 (by decide +kernel)) (by decide +kernel), GW_mem (tm6 38 (by decide +kernel)) (by decide +kernel), ⟨by decide +kernel, by decide +kernel⟩, by decide +kernel, by decide⟩
abbrev mX3_rowBehindStep : MI := (yX3_rowBehindStep, cX3_rowBehindStep, 2, (some .int))
theorem mvX3_rowBehindStep : MV mX3_rowBehindStep 3 1 := ⟨⟨_, _, rfl⟩, by decide, GW_mem (tm6 57 (by decide +kernel)) (by decide +kernel), GW_mem (tp4 (q := (yX3_rowBehindStep, 13)) 9 (by decide +kernel)) (by decide +kernel), GW_mem (tm1 11 (by decide +kernel)) (by decide +kernel), GW_mem (tm6 58 (by decide +kernel)) (by decide +kernel), ⟨by decide +kernel, by decide +kernel⟩, by decide +kernel, by decide⟩
abbrev mX3_isSo : MI := (yX3_isSo, cX3_isSo, 4, (some .boolean))
theorem mvX3_isSo : MV mX3_isSo 3 1 := ⟨⟨_, _, rfl⟩, by decide, GW_mem (tm6 61 (by decide +kernel)) (by decide +kernel), GW_mem (tp4 (q := (yX3_isSo, 13)) 10 (by decide +kernel)) (by decide +kernel), GW_mem (tm1 11 (by decide +kernel)) (by decide +kernel), GW_mem (tm6 62 (by decide +kernel)) (by decide +kernel), ⟨by decide +kernel, by decide +kernel⟩, by decide +kernel, by decide⟩
abbrev mX3_perform : MI := (yX3_perform, cX3_perform, 4, none)
theorem mvX3_perform : MV mX3_perform 3 1 := ⟨⟨_, _, rfl⟩, by decide, GW_mem (tm6 41 (by decide +kernel)) (by decide +kernel), GW_mem (tp4 (q := (yX3_perform, 13)) 7 (by decide +kernel)) (by decide +kernel), GW_mem (tm1 11 (by decide +kernel)) (by decide +kernel), GW_mem (tm6 42 (by decide +kernel)) (by decide +kernel), ⟨by decide +kernel, by decide +kernel⟩, by decide +kernel, by decide⟩
abbrev mX3_drawWinds : MI := (yX3_drawWinds, cX3_drawWinds, 3, none)
theorem mvX3_drawWinds : MV mX3_drawWinds 3 1 := ⟨⟨_, _, rfl⟩, by decide, GW_mem (tm6 49 (by decide +kernel)) (by decide +kernel), GW_mem (tp4 (q := (yX3_drawWinds, 13)) 8 (by decide +kernel)) (by decide +kernel), GW_mem (tm1 11 (by decide +kernel)) (by decide +kernel), GW_mem (tm6 50 (by decide +kernel)) (by decide +kernel), ⟨by decide +kernel, by decide +kernel⟩, by decide +kernel, by decide⟩
abbrev mX4_init : MI := (yX4_init, cX4_init, 1, none)
abbrev mX4_begin : MI := (yX4_begin, cX4_begin, 3, none)
theorem mvX4_begin : MV mX4_begin 4 1 := ⟨⟨_, _, rfl⟩, by decide, GW_mem (tm4 30 (by decide +kernel)) (by decide +kernel), GW_mem (tm4 31 (by decide +kernel)) (by decide +kernel), GW_mem (tm1 7 (by decide +kernel)) (by decide +kernel), GW_mem (tm4 32 (by decide +kernel)) (by decide +kernel), ⟨by decide +kernel, by decide +kernel⟩, by decide +kernel, by decide⟩
abbrev mX4_blowEverywhere : MI := (yX4_blowEverywhere, cX4_blowEverywhere, 4, none)
theorem mvX4_blowEverywhere : MV mX4_blowEverywhere 4 2 := ⟨⟨_, _, rfl⟩, by decide, GW_mem (tm4 34 (by decide +kernel)) (by decide +kernel), GW_mem (tm4 35 (by decide +kernel)) (by decide +kernel), GW_mem (tm1 7 (by decide +kernel)) (by decide +kernel), GW_mem (tm4 36 (by decide +kernel)) (by decide +kernel), ⟨by decide +kernel, by decide +kernel⟩, by decide +kernel, by decide⟩
abbrev mX4_copyFrom : MI := (yX4_copyFrom, cX4_copyFrom, 2, none)
theorem mvX4_copyFrom : MV mX4_copyFrom 4 1 := ⟨⟨_, _, rfl⟩, by decide, GW_mem (tm5 100 (by decide +kernel)) (by decide +kernel), GW_mem (tm5 101 (by decide +kernel)) (by decide +kernel), GW_mem (tm1 7 (by decide +kernel)) (by decide +kernel), GW_mem (tm5 102 (by decide +kernel)) (by decide +kernel), ⟨by decide +kernel, by decide +kernel⟩, by decide +kernel, by decide⟩
abbrev mX5_init : MI := (yX5_init, cX5_init, 1, none)
abbrev mX5_clear : MI := (yX5_clear, cX5_clear, 1, none)
theorem mvX5_clear : MV mX5_clear 5 0 := ⟨⟨_, _, rfl⟩, by decide, GW_mem (tm4 38 (by decide +kernel)) (by decide +kernel), GW_mem (tm4 39 (by decide +kernel)) (by decide +kernel), GW_mem (tm1 8 (by decide +kernel)) (by decide +kernel), GW_mem (tm4 40 (by decide +kernel)) (by decide +kernel), ⟨by decide +kernel, by decide +kernel⟩, by decide +kernel, by decide⟩
abbrev mX5_copyFrom : MI := (yX5_copyFrom, cX5_copyFrom, 2, none)
theorem mvX5_copyFrom : MV mX5_copyFrom 5 1 := ⟨⟨_, _, rfl⟩, by decide, GW_mem (tm6 97 (by decide +kernel)) (by decide +kernel), GW_mem (tm6 98 (by decide +kernel)) (by decide +kernel), GW_mem (tm1 8 (by decide +kernel)) (by decide +kernel), GW_mem (tm6 99 (by decide +kernel)) (by decide +kernel), ⟨by decide +kernel, by decide +kernel⟩, by decide +kernel, by decide⟩
abbrev mX6_init : MI := (yX6_init, cX6_init, 1, none)
abbrev mX6_hasRoomFor : MI := (yX6_hasRoomFor, cX6_hasRoomFor, 2, (some .boolean))
theorem mvX6_hasRoomFor : MV mX6_hasRoomFor 6 1 := ⟨⟨_, _, rfl⟩, by decide, GW_mem (tm3 135 (by decide +kernel)) (by decide +kernel), GW_mem (tm3 136 (by decide +kernel)) (by decide +kernel), GW_mem (tm1 2 (by decide +kernel)) (by decide +kernel), GW_mem (tm3 137 (by decide +kernel)) (by decide +kernel), ⟨by decide +kernel, by decide +kernel⟩, by decide +kernel, by decide⟩
abbrev mX6_append : MI := (yX6_append, cX6_append, 3, none)
theorem mvX6_append : MV mX6_append 6 1 := ⟨⟨_, _, rfl⟩, by decide, GW_mem (tm3 139 (by decide +kernel)) (by decide +kernel), GW_mem (tm3 140 (by decide +kernel)) (by decide +kernel), GW_mem (tm1 2 (by decide +kernel)) (by decide +kernel), GW_mem (tm3 141 (by decide +kernel)) (by decide +kernel), ⟨by decide +kernel, by decide +kernel⟩, by decide +kernel, by decide⟩
abbrev mX6_open : MI := (yX6_open, cX6_open, 2, none)
theorem mvX6_open : MV mX6_open 6 1 := ⟨⟨_, _, rfl⟩, by decide, GW_mem (tm3 147 (by decide +kernel)) (by decide +kernel), GW_mem (tm3 148 (by decide +kernel)) (by decide +kernel), GW_mem (tm1 2 (by decide +kernel)) (by decide +kernel), GW_mem (tm3 149 (by decide +kernel)) (by decide +kernel), ⟨by decide +kernel, by decide +kernel⟩, by decide +kernel, by decide⟩
abbrev mX6_advance : MI := (yX6_advance, cX6_advance, 2, none)
theorem mvX6_advance : MV mX6_advance 6 0 := ⟨⟨_, _, rfl⟩, by decide, GW_mem (tm3 154 (by decide +kernel)) (by decide +kernel), GW_mem (tm3 155 (by decide +kernel)) (by decide +kernel), GW_mem (tm1 2 (by decide +kernel)) (by decide +kernel), GW_mem (tm3 156 (by decide +kernel)) (by decide +kernel), ⟨by decide +kernel, by decide +kernel⟩, by decide +kernel, by decide⟩
abbrev mX6_scanWord : MI := (yX6_scanWord, cX6_scanWord, 3, none)
theorem mvX6_scanWord : MV mX6_scanWord 6 0 := ⟨⟨_, _, rfl⟩, by decide, GW_mem (tm3 159 (by decide +kernel)) (by decide +kernel), GW_mem (tp1 (q := (yX6_scanWord, 13)) 5 (by decide +kernel)) (by decide +kernel), GW_mem (tm1 2 (by decide +kernel)) (by decide +kernel), GW_mem (tm3 160 (by decide +kernel)) (by decide +kernel), ⟨by decide +kernel, by decide +kernel⟩, by decide +kernel, by decide⟩
abbrev mX6_scanNumber : MI := (yX6_scanNumber, cX6_scanNumber, 2, none)
theorem mvX6_scanNumber : MV mX6_scanNumber 6 0 := ⟨⟨_, _, rfl⟩, by decide, GW_mem (tm3 165 (by decide +kernel)) (by decide +kernel), GW_mem (tp1 (q := (yX6_scanNumber, 13)) 6 (by decide +kernel)) (by decide +kernel), GW_mem (tm1 2 (by decide +kernel)) (by decide +kernel), GW_mem (tm3 166 (by decide +kernel)) (by decide +kernel), ⟨by decide +kernel, by decide +kernel⟩, by decide +kernel, by decide⟩
abbrev mX6_isSign : MI := (yX6_isSign, cX6_isSign, 1, (some .boolean))
theorem msX6_isSign : MS mX6_isSign 1 := ⟨GW_mem (tm3 168 (by decide +kernel)) (by decide +kernel), GW_mem (tm1 2 (by decide +kernel)) (by decide +kernel), GW_mem (tm3 169 (by decide +kernel)) (by decide +kernel), ⟨by decide +kernel, by decide +kernel⟩, by decide +kernel, by decide⟩
abbrev mX6_refuse : MI := (yX6_refuse, cX6_refuse, 2, (some .boolean))
theorem mvX6_refuse : MV mX6_refuse 6 1 := ⟨⟨_, _, rfl⟩, by decide, GW_mem (tm3 200 (by decide +kernel)) (by decide +kernel), GW_mem (tm3 201 (by decide +kernel)) (by decide +kernel), GW_mem (tm1 2 (by decide +kernel)) (by decide +kernel), GW_mem (tm3 202 (by decide +kernel)) (by decide +kernel), ⟨by decide +kernel, by decide +kernel⟩, by decide +kernel, by decide⟩
abbrev mX6_refuseToken : MI := (yX6_refuseToken, cX6_refuseToken, 1, (some .boolean))
theorem mvX6_refuseToken : MV mX6_refuseToken 6 0 := ⟨⟨_, _, rfl⟩, by decide, GW_mem (tm3 196 (by decide +kernel)) (by decide +kernel), GW_mem (tm3 197 (by decide +kernel)) (by decide +kernel), GW_mem (tm1 2 (by decide +kernel)) (by decide +kernel), GW_mem (tm3 198 (by decide +kernel)) (by decide +kernel), ⟨by decide +kernel, by decide +kernel⟩, by decide +kernel, by decide⟩
abbrev mX6_takeSemicolon : MI := (yX6_takeSemicolon, cX6_takeSemicolon, 1, (some .boolean))
theorem mvX6_takeSemicolon : MV mX6_takeSemicolon 6 0 := ⟨⟨_, _, rfl⟩, by decide, GW_mem (tm3 223 (by decide +kernel)) (by decide +kernel), GW_mem (tm3 224 (by decide +kernel)) (by decide +kernel), GW_mem (tm1 2 (by decide +kernel)) (by decide +kernel), GW_mem (tm3 225 (by decide +kernel)) (by decide +kernel), ⟨by decide +kernel, by decide +kernel⟩, by decide +kernel, by decide⟩
abbrev mX6_takeCompare : MI := (yX6_takeCompare, cX6_takeCompare, 1, (some .boolean))
theorem mvX6_takeCompare : MV mX6_takeCompare 6 0 := ⟨⟨_, _, rfl⟩, by decide, GW_mem (tm4 84 (by decide +kernel)) (by decide +kernel), GW_mem (tm4 85 (by decide +kernel)) (by decide +kernel), GW_mem (tm1 2 (by decide +kernel)) (by decide +kernel), GW_mem (tm4 86 (by decide +kernel)) (by decide +kernel), ⟨by decide +kernel, by decide +kernel⟩, by decide +kernel, by decide⟩
abbrev mX6_takeKeyword : MI := (yX6_takeKeyword, cX6_takeKeyword, 2, (some .boolean))
theorem mvX6_takeKeyword : MV mX6_takeKeyword 6 1 := ⟨⟨_, _, rfl⟩, by decide, GW_mem (tm3 232 (by decide +kernel)) (by decide +kernel), GW_mem (tm3 233 (by decide +kernel)) (by decide +kernel), GW_mem (tm1 2 (by decide +kernel)) (by decide +kernel), GW_mem (tm3 234 (by decide +kernel)) (by decide +kernel), ⟨by decide +kernel, by decide +kernel⟩, by decide +kernel, by decide⟩
abbrev mX6_takeNumber : MI := (yX6_takeNumber, cX6_takeNumber, 3, (some .boolean))
theorem mvX6_takeNumber : MV mX6_takeNumber 6 2 := ⟨⟨_, _, rfl⟩, by decide, GW_mem (tm3 236 (by decide +kernel)) (by decide +kernel), GW_mem (tm3 237 (by decide +kernel)) (by decide +kernel), GW_mem (tm1 2 (by decide +kernel)) (by decide +kernel), GW_mem (tm3 238 (by decide +kernel)) (by decide +kernel), ⟨by decide +kernel, by decide +kernel⟩, by decide +kernel, by decide⟩
abbrev mX6_takeOption : MI := (yX6_takeOption, cX6_takeOption, 3, (some .boolean))
theorem mvX6_takeOption : MV mX6_takeOption 6 2 := ⟨⟨_, _, rfl⟩, by decide, GW_mem (tm4 9 (by decide +kernel)) (by decide +kernel), GW_mem (tm4 10 (by decide +kernel)) (by decide +kernel), GW_mem (tm1 2 (by decide +kernel)) (by decide +kernel), GW_mem (tm4 11 (by decide +kernel)) (by decide +kernel), ⟨by decide +kernel, by decide +kernel⟩, by decide +kernel, by decide⟩
abbrev mX6_seesName : MI := (yX6_seesName, cX6_seesName, 1, (some .boolean))
theorem mvX6_seesName : MV mX6_seesName 6 0 := ⟨⟨_, _, rfl⟩, by decide, GW_mem (tm3 192 (by decide +kernel)) (by decide +kernel), GW_mem (tm3 193 (by decide +kernel)) (by decide +kernel), GW_mem (tm1 2 (by decide +kernel)) (by decide +kernel), GW_mem (tm3 194 (by decide +kernel)) (by decide +kernel), ⟨by decide +kernel, by decide +kernel⟩, by decide +kernel, by decide⟩
abbrev mX6_takeNewName : MI := (yX6_takeNewName, cX6_takeNewName, 2, (some .boolean))
theorem mvX6_takeNewName : MV mX6_takeNewName 6 1 := ⟨⟨_, _, rfl⟩, by decide, GW_mem (tm3 188 (by decide +kernel)) (by decide +kernel), GW_mem (tm3 189 (by decide +kernel)) (by decide +kernel), GW_mem (tm1 2 (by decide +kernel)) (by decide +kernel), GW_mem (tm3 190 (by decide +kernel)) (by decide +kernel), ⟨by decide +kernel, by decide +kernel⟩, by decide +kernel, by decide⟩
abbrev mX6_takePlace : MI := (yX6_takePlace, cX6_takePlace, 2, (some .boolean))
theorem mvX6_takePlace : MV mX6_takePlace 6 1 := ⟨⟨_, _, rfl⟩, by decide, GW_mem (tm4 0 (by decide +kernel)) (by decide +kernel), GW_mem (tm4 1 (by decide +kernel)) (by decide +kernel), GW_mem (tm1 2 (by decide +kernel)) (by decide +kernel), GW_mem (tm4 2 (by decide +kernel)) (by decide +kernel), ⟨by decide +kernel, by decide +kernel⟩, by decide +kernel, by decide⟩
abbrev mX6_takeVane : MI := (yX6_takeVane, cX6_takeVane, 2, (some .boolean))
theorem mvX6_takeVane : MV mX6_takeVane 6 1 := ⟨⟨_, _, rfl⟩, by decide, GW_mem (tm4 18 (by decide +kernel)) (by decide +kernel), GW_mem (tm4 19 (by decide +kernel)) (by decide +kernel), GW_mem (tm1 2 (by decide +kernel)) (by decide +kernel), GW_mem (tm4 20 (by decide +kernel)) (by decide +kernel), ⟨by decide +kernel, by decide +kernel⟩, by decide +kernel, by decide⟩
abbrev mX6_takeShaft : MI := (yX6_takeShaft, cX6_takeShaft, 2, (some .boolean))
theorem mvX6_takeShaft : MV mX6_takeShaft 6 1 := ⟨⟨_, _, rfl⟩, by decide, GW_mem (tm4 102 (by decide +kernel)) (by decide +kernel), GW_mem (tm4 103 (by decide +kernel)) (by decide +kernel), GW_mem (tm1 2 (by decide +kernel)) (by decide +kernel), GW_mem (tm4 104 (by decide +kernel)) (by decide +kernel), ⟨by decide +kernel, by decide +kernel⟩, by decide +kernel, by decide⟩
abbrev mX6_takeThing : MI := (yX6_takeThing, cX6_takeThing, 2, (some .boolean))
theorem mvX6_takeThing : MV mX6_takeThing 6 1 := ⟨⟨_, _, rfl⟩, by decide, GW_mem (tm4 6 (by decide +kernel)) (by decide +kernel), GW_mem (tp1 (q := (yX6_takeThing, 13)) 10 (by decide +kernel)) (by decide +kernel), GW_mem (tm1 2 (by decide +kernel)) (by decide +kernel), GW_mem (tm4 7 (by decide +kernel)) (by decide +kernel), ⟨by decide +kernel, by decide +kernel⟩, by decide +kernel, by decide⟩
abbrev mX7_init : MI := (yX7_init, cX7_init, 1, none)
abbrev mX7_copyFrom : MI := (yX7_copyFrom, cX7_copyFrom, 2, none)
theorem mvX7_copyFrom : MV mX7_copyFrom 7 1 := ⟨⟨_, _, rfl⟩, by decide, GW_mem (tm6 87 (by decide +kernel)) (by decide +kernel), GW_mem (tm6 88 (by decide +kernel)) (by decide +kernel), GW_mem (tm1 5 (by decide +kernel)) (by decide +kernel), GW_mem (tm6 89 (by decide +kernel)) (by decide +kernel), ⟨by decide +kernel, by decide +kernel⟩, by decide +kernel, by decide⟩
abbrev mX8_init : MI := (yX8_init, cX8_init, 1, none)
abbrev mX8_isMissing : MI := (yX8_isMissing, cX8_isMissing, 1, (some .boolean))
theorem mvX8_isMissing : MV mX8_isMissing 8 0 := ⟨⟨_, _, rfl⟩, by decide, GW_mem (tm3 104 (by decide +kernel)) (by decide +kernel), GW_mem (tm3 105 (by decide +kernel)) (by decide +kernel), GW_mem (tm1 12 (by decide +kernel)) (by decide +kernel), GW_mem (tm3 106 (by decide +kernel)) (by decide +kernel), ⟨by decide +kernel, by decide +kernel⟩, by decide +kernel, by decide⟩
abbrev mX8_lay : MI := (yX8_lay, cX8_lay, 4, none)
theorem mvX8_lay : MV mX8_lay 8 2 := ⟨⟨_, _, rfl⟩, by decide, GW_mem (tm3 88 (by decide +kernel)) (by decide +kernel), GW_mem (tm3 89 (by decide +kernel)) (by decide +kernel), GW_mem (tm1 12 (by decide +kernel)) (by decide +kernel), GW_mem (tm3 90 (by decide +kernel)) (by decide +kernel), ⟨by decide +kernel, by decide +kernel⟩, by decide +kernel, by decide⟩
abbrev mX8_put : MI := (yX8_put, cX8_put, 4, none)
theorem mvX8_put : MV mX8_put 8 2 := ⟨⟨_, _, rfl⟩, by decide, GW_mem (tm3 108 (by decide +kernel)) (by decide +kernel), GW_mem (tm3 109 (by decide +kernel)) (by decide +kernel), GW_mem (tm1 12 (by decide +kernel)) (by decide +kernel), GW_mem (tm3 110 (by decide +kernel)) (by decide +kernel), ⟨by decide +kernel, by decide +kernel⟩, by decide +kernel, by decide⟩
abbrev mX8_hasFrom : MI := (yX8_hasFrom, cX8_hasFrom, 3, (some .boolean))
theorem mvX8_hasFrom : MV mX8_hasFrom 8 2 := ⟨⟨_, _, rfl⟩, by decide, GW_mem (tm3 124 (by decide +kernel)) (by decide +kernel), GW_mem (tm3 125 (by decide +kernel)) (by decide +kernel), GW_mem (tm1 12 (by decide +kernel)) (by decide +kernel), GW_mem (tm3 126 (by decide +kernel)) (by decide +kernel), ⟨by decide +kernel, by decide +kernel⟩, by decide +kernel, by decide⟩
abbrev mX9_init : MI := (yX9_init, cX9_init, 1, none)
abbrev mX9_readAll : MI := (yX9_readAll, cX9_readAll, 4, (some .boolean))
theorem mvX9_readAll : MV mX9_readAll 9 2 := ⟨⟨_, _, rfl⟩, by decide, GW_mem (tm3 171 (by decide +kernel)) (by decide +kernel), GW_mem (tm3 172 (by decide +kernel)) (by decide +kernel), GW_mem (tm1 3 (by decide +kernel)) (by decide +kernel), GW_mem (tm3 173 (by decide +kernel)) (by decide +kernel), ⟨by decide +kernel, by decide +kernel⟩, by decide +kernel, by decide⟩
abbrev mX9_readPart : MI := (yX9_readPart, cX9_readPart, 1, (some .boolean))
theorem mvX9_readPart : MV mX9_readPart 9 0 := ⟨⟨_, _, rfl⟩, by decide, GW_mem (tm3 180 (by decide +kernel)) (by decide +kernel), GW_mem (tp1 (q := (yX9_readPart, 2)) 7 (by decide +kernel)) (by decide +kernel), GW_mem (tm1 3 (by decide +kernel)) (by decide +kernel), GW_mem (tm3 181 (by decide +kernel)) (by decide +kernel), ⟨by decide +kernel, by decide +kernel⟩, by decide +kernel, by decide⟩
abbrev mX9_readPlace : MI := (yX9_readPlace, cX9_readPlace, 3, (some .boolean))
theorem mvX9_readPlace : MV mX9_readPlace 9 0 := ⟨⟨_, _, rfl⟩, by decide, GW_mem (tm3 184 (by decide +kernel)) (by decide +kernel), GW_mem (tp1 (q := (yX9_readPlace, 2)) 8 (by decide +kernel)) (by decide +kernel), GW_mem (tm1 3 (by decide +kernel)) (by decide +kernel), GW_mem (tm3 185 (by decide +kernel)) (by decide +kernel), ⟨by decide +kernel, by decide +kernel⟩, by decide +kernel, by decide⟩
abbrev mX9_readVane : MI := (yX9_readVane, cX9_readVane, 2, (some .boolean))
theorem mvX9_readVane : MV mX9_readVane 9 0 := ⟨⟨_, _, rfl⟩, by decide, GW_mem (tm3 229 (by decide +kernel)) (by decide +kernel), GW_mem (tp1 (q := (yX9_readVane, 2)) 9 (by decide +kernel)) (by decide +kernel), GW_mem (tm1 3 (by decide +kernel)) (by decide +kernel), GW_mem (tm3 230 (by decide +kernel)) (by decide +kernel), ⟨by decide +kernel, by decide +kernel⟩, by decide +kernel, by decide⟩
abbrev mX9_readShaft : MI := (yX9_readShaft, cX9_readShaft, 2, (some .boolean))
theorem mvX9_readShaft : MV mX9_readShaft 9 0 := ⟨⟨_, _, rfl⟩, by decide, GW_mem (tm4 15 (by decide +kernel)) (by decide +kernel), GW_mem (tp1 (q := (yX9_readShaft, 2)) 11 (by decide +kernel)) (by decide +kernel), GW_mem (tm1 3 (by decide +kernel)) (by decide +kernel), GW_mem (tm4 16 (by decide +kernel)) (by decide +kernel), ⟨by decide +kernel, by decide +kernel⟩, by decide +kernel, by decide⟩
abbrev mX10_init : MI := (yX10_init, cX10_init, 1, none)
abbrev mX10_use : MI := (yX10_use, cX10_use, 3, none)
theorem mvX10_use : MV mX10_use 10 2 := ⟨⟨_, _, rfl⟩, by decide, GW_mem (tm4 139 (by decide +kernel)) (by decide +kernel), GW_mem (tm4 140 (by decide +kernel)) (by decide +kernel), GW_mem (tm1 9 (by decide +kernel)) (by decide +kernel), GW_mem (tm4 141 (by decide +kernel)) (by decide +kernel), ⟨by decide +kernel, by decide +kernel⟩, by decide +kernel, by decide⟩
abbrev mX10_listenFor : MI := (yX10_listenFor, cX10_listenFor, 2, none)
theorem mvX10_listenFor : MV mX10_listenFor 10 1 := ⟨⟨_, _, rfl⟩, by decide, GW_mem (tm4 143 (by decide +kernel)) (by decide +kernel), GW_mem (tm4 144 (by decide +kernel)) (by decide +kernel), GW_mem (tm1 9 (by decide +kernel)) (by decide +kernel), GW_mem (tm4 145 (by decide +kernel)) (by decide +kernel), ⟨by decide +kernel, by decide +kernel⟩, by decide +kernel, by decide⟩
abbrev mX10_blow : MI := (yX10_blow, cX10_blow, 4, none)
theorem mvX10_blow : MV mX10_blow 10 3 := ⟨⟨_, _, rfl⟩, by decide, GW_mem (tm6 44 (by decide +kernel)) (by decide +kernel), GW_mem (tm6 45 (by decide +kernel)) (by decide +kernel), GW_mem (tm1 9 (by decide +kernel)) (by decide +kernel), GW_mem (tm6 46 (by decide +kernel)) (by decide +kernel), ⟨by decide +kernel, by decide +kernel⟩, by decide +kernel, by decide⟩
abbrev mX10_blowEverywhere : MI := (yX10_blowEverywhere, cX10_blowEverywhere, 3, none)
theorem mvX10_blowEverywhere : MV mX10_blowEverywhere 10 2 := ⟨⟨_, _, rfl⟩, by decide, GW_mem (tm5 211 (by decide +kernel)) (by decide +kernel), GW_mem (tm5 212 (by decide +kernel)) (by decide +kernel), GW_mem (tm1 9 (by decide +kernel)) (by decide +kernel), GW_mem (tm5 213 (by decide +kernel)) (by decide +kernel), ⟨by decide +kernel, by decide +kernel⟩, by decide +kernel, by decide⟩
abbrev mX10_aim : MI := (yX10_aim, cX10_aim, 5, none)
theorem mvX10_aim : MV mX10_aim 10 0 := ⟨⟨_, _, rfl⟩, by decide, GW_mem (tm4 148 (by decide +kernel)) (by decide +kernel), GW_mem (tp2 (q := (yX10_aim, 9)) 9 (by decide +kernel)) (by decide +kernel), GW_mem (tm1 9 (by decide +kernel)) (by decide +kernel), GW_mem (tm4 149 (by decide +kernel)) (by decide +kernel), ⟨by decide +kernel, by decide +kernel⟩, by decide +kernel, by decide⟩
abbrev mX10_isRight : MI := (yX10_isRight, cX10_isRight, 2, (some .boolean))
theorem mvX10_isRight : MV mX10_isRight 10 1 := ⟨⟨_, _, rfl⟩, by decide, GW_mem (tm4 155 (by decide +kernel)) (by decide +kernel), GW_mem (tm4 156 (by decide +kernel)) (by decide +kernel), GW_mem (tm1 9 (by decide +kernel)) (by decide +kernel), GW_mem (tm4 157 (by decide +kernel)) (by decide +kernel), ⟨by decide +kernel, by decide +kernel⟩, by decide +kernel, by decide⟩
abbrev mX10_rightSet : MI := (yX10_rightSet, cX10_rightSet, 3, (some .int))
theorem mvX10_rightSet : MV mX10_rightSet 10 0 := ⟨⟨_, _, rfl⟩, by decide, GW_mem (tm5 109 (by decide +kernel)) (by decide +kernel), GW_mem (tm5 110 (by decide +kernel)) (by decide +kernel), GW_mem (tm1 9 (by decide +kernel)) (by decide +kernel), GW_mem (tm5 111 (by decide +kernel)) (by decide +kernel), ⟨by decide +kernel, by decide +kernel⟩, by decide +kernel, by decide⟩
abbrev mX10_gap : MI := (yX10_gap, cX10_gap, 5, (some .int))
theorem mvX10_gap : MV mX10_gap 10 2 := ⟨⟨_, _, rfl⟩, by decide, GW_mem (tm4 231 (by decide +kernel)) (by decide +kernel), GW_mem (tp3 (q := (yX10_gap, 9)) 2 (by decide +kernel)) (by decide +kernel), GW_mem (tm1 9 (by decide +kernel)) (by decide +kernel), GW_mem (tm4 232 (by decide +kernel)) (by decide +kernel), ⟨by decide +kernel, by decide +kernel⟩, by decide +kernel, by decide⟩
abbrev mX10_gapNow : MI := (yX10_gapNow, cX10_gapNow, 2, (some .int))
theorem mvX10_gapNow : MV mX10_gapNow 10 1 := ⟨⟨_, _, rfl⟩, by decide, GW_mem (tm5 191 (by decide +kernel)) (by decide +kernel), GW_mem (tm5 192 (by decide +kernel)) (by decide +kernel), GW_mem (tm1 9 (by decide +kernel)) (by decide +kernel), GW_mem (tm5 193 (by decide +kernel)) (by decide +kernel), ⟨by decide +kernel, by decide +kernel⟩, by decide +kernel, by decide⟩
abbrev mX10_shorterWay : MI := (yX10_shorterWay, cX10_shorterWay, 3, (some .int))
theorem mvX10_shorterWay : MV mX10_shorterWay 10 1 := ⟨⟨_, _, rfl⟩, by decide, GW_mem (tm4 198 (by decide +kernel)) (by decide +kernel), GW_mem (tm4 199 (by decide +kernel)) (by decide +kernel), GW_mem (tm1 9 (by decide +kernel)) (by decide +kernel), GW_mem (tm4 200 (by decide +kernel)) (by decide +kernel), ⟨by decide +kernel, by decide +kernel⟩, by decide +kernel, by decide⟩
abbrev mX10_toothBehindStep : MI := (yX10_toothBehindStep, cX10_toothBehindStep, 3, (some .int))
theorem mvX10_toothBehindStep : MV mX10_toothBehindStep 10 1 := ⟨⟨_, _, rfl⟩, by decide, GW_mem (tm4 235 (by decide +kernel)) (by decide +kernel), GW_mem (tp3 (q := (yX10_toothBehindStep, 9)) 3 (by decide +kernel)) (by decide +kernel), GW_mem (tm1 9 (by decide +kernel)) (by decide +kernel), GW_mem (tm4 236 (by decide +kernel)) (by decide +kernel), ⟨by decide +kernel, by decide +kernel⟩, by decide +kernel, by decide⟩
abbrev mX10_engage : MI := (yX10_engage, cX10_engage, 9, (some .boolean))
theorem mvX10_engage : MV mX10_engage 10 2 := ⟨⟨_, _, rfl⟩, by decide, GW_mem (tm4 202 (by decide +kernel)) (by decide +kernel), GW_mem (tm4 203 (by decide +kernel)) (by decide +kernel), GW_mem (tm1 9 (by decide +kernel)) (by decide +kernel), GW_mem (tm4 204 (by decide +kernel)) (by decide +kernel), ⟨by decide +kernel, by decide +kernel⟩, by decide +kernel, by decide⟩
abbrev mX10_draggingShaft : MI := (yX10_draggingShaft, cX10_draggingShaft, 3, (some .int))
theorem mvX10_draggingShaft : MV mX10_draggingShaft 10 0 := ⟨⟨_, _, rfl⟩, by decide, GW_mem (tm4 207 (by decide +kernel)) (by decide +kernel), GW_mem (tp2 (q := (yX10_draggingShaft, 9)) 12 (by decide +kernel)) (by decide +kernel), GW_mem (tm1 9 (by decide +kernel)) (by decide +kernel), GW_mem (tm4 208 (by decide +kernel)) (by decide +kernel), ⟨by decide +kernel, by decide +kernel⟩, by decide +kernel, by decide⟩
abbrev mX10_playChange : MI := (yX10_playChange, cX10_playChange, 2, (some .int))
theorem mvX10_playChange : MV mX10_playChange 10 1 := ⟨⟨_, _, rfl⟩, by decide, GW_mem (tm4 211 (by decide +kernel)) (by decide +kernel), GW_mem (tp2 (q := (yX10_playChange, 9)) 13 (by decide +kernel)) (by decide +kernel), GW_mem (tm1 9 (by decide +kernel)) (by decide +kernel), GW_mem (tm4 212 (by decide +kernel)) (by decide +kernel), ⟨by decide +kernel, by decide +kernel⟩, by decide +kernel, by decide⟩
abbrev mX10_isInBounds : MI := (yX10_isInBounds, cX10_isInBounds, 3, (some .boolean))
theorem mvX10_isInBounds : MV mX10_isInBounds 10 2 := ⟨⟨_, _, rfl⟩, by decide, GW_mem (tm4 215 (by decide +kernel)) (by decide +kernel), GW_mem (tp2 (q := (yX10_isInBounds, 9)) 14 (by decide +kernel)) (by decide +kernel), GW_mem (tm1 9 (by decide +kernel)) (by decide +kernel), GW_mem (tm4 216 (by decide +kernel)) (by decide +kernel), ⟨by decide +kernel, by decide +kernel⟩, by decide +kernel, by decide⟩
abbrev mX10_isAllPlayInBounds : MI := (yX10_isAllPlayInBounds, cX10_isAllPlayInBounds, 2, (some .boolean))
theorem mvX10_isAllPlayInBounds : MV mX10_isAllPlayInBounds 10 0 := ⟨⟨_, _, rfl⟩, by decide, GW_mem (tm4 219 (by decide +kernel)) (by decide +kernel), GW_mem (tp2 (q := (yX10_isAllPlayInBounds, 9)) 15 (by decide +kernel)) (by decide +kernel), GW_mem (tm1 9 (by decide +kernel)) (by decide +kernel), GW_mem (tm4 220 (by decide +kernel)) (by decide +kernel), ⟨by decide +kernel, by decide +kernel⟩, by decide +kernel, by decide⟩
abbrev mX10_move : MI := (yX10_move, cX10_move, 2, none)
theorem mvX10_move : MV mX10_move 10 0 := ⟨⟨_, _, rfl⟩, by decide, GW_mem (tm4 239 (by decide +kernel)) (by decide +kernel), GW_mem (tp3 (q := (yX10_move, 9)) 4 (by decide +kernel)) (by decide +kernel), GW_mem (tm1 9 (by decide +kernel)) (by decide +kernel), GW_mem (tm5 0 (by decide +kernel)) (by decide +kernel), ⟨by decide +kernel, by decide +kernel⟩, by decide +kernel, by decide⟩
abbrev mX10_moveVane : MI := (yX10_moveVane, cX10_moveVane, 2, none)
theorem mvX10_moveVane : MV mX10_moveVane 10 1 := ⟨⟨_, _, rfl⟩, by decide, GW_mem (tm5 3 (by decide +kernel)) (by decide +kernel), GW_mem (tp3 (q := (yX10_moveVane, 9)) 5 (by decide +kernel)) (by decide +kernel), GW_mem (tm1 9 (by decide +kernel)) (by decide +kernel), GW_mem (tm5 4 (by decide +kernel)) (by decide +kernel), ⟨by decide +kernel, by decide +kernel⟩, by decide +kernel, by decide⟩
abbrev mX10_gain : MI := (yX10_gain, cX10_gain, 2, (some .int))
theorem mvX10_gain : MV mX10_gain 10 1 := ⟨⟨_, _, rfl⟩, by decide, GW_mem (tm4 227 (by decide +kernel)) (by decide +kernel), GW_mem (tp3 (q := (yX10_gain, 9)) 1 (by decide +kernel)) (by decide +kernel), GW_mem (tm1 9 (by decide +kernel)) (by decide +kernel), GW_mem (tm4 228 (by decide +kernel)) (by decide +kernel), ⟨by decide +kernel, by decide +kernel⟩, by decide +kernel, by decide⟩
abbrev mX10_comingNearer : MI := (yX10_comingNearer, cX10_comingNearer, 4, (some .int))
theorem mvX10_comingNearer : MV mX10_comingNearer 10 1 := ⟨⟨_, _, rfl⟩, by decide, GW_mem (tm5 164 (by decide +kernel)) (by decide +kernel), GW_mem (tm5 165 (by decide +kernel)) (by decide +kernel), GW_mem (tm1 9 (by decide +kernel)) (by decide +kernel), GW_mem (tm5 166 (by decide +kernel)) (by decide +kernel), ⟨by decide +kernel, by decide +kernel⟩, by decide +kernel, by decide⟩
abbrev mX10_loadOf : MI := (yX10_loadOf, cX10_loadOf, 3, (some .int))
theorem mvX10_loadOf : MV mX10_loadOf 10 2 := ⟨⟨_, _, rfl⟩, by decide, GW_mem (tm5 180 (by decide +kernel)) (by decide +kernel), GW_mem (tm5 181 (by decide +kernel)) (by decide +kernel), GW_mem (tm1 9 (by decide +kernel)) (by decide +kernel), GW_mem (tm5 182 (by decide +kernel)) (by decide +kernel), ⟨by decide +kernel, by decide +kernel⟩, by decide +kernel, by decide⟩
abbrev mX10_isDriven : MI := (yX10_isDriven, cX10_isDriven, 2, (some .boolean))
theorem mvX10_isDriven : MV mX10_isDriven 10 1 := ⟨⟨_, _, rfl⟩, by decide, GW_mem (tm4 191 (by decide +kernel)) (by decide +kernel), GW_mem (tp2 (q := (yX10_isDriven, 9)) 11 (by decide +kernel)) (by decide +kernel), GW_mem (tm1 9 (by decide +kernel)) (by decide +kernel), GW_mem (tm4 192 (by decide +kernel)) (by decide +kernel), ⟨by decide +kernel, by decide +kernel⟩, by decide +kernel, by decide⟩
abbrev mX10_force : MI := (yX10_force, cX10_force, 3, (some .int))
theorem mvX10_force : MV mX10_force 10 0 := ⟨⟨_, _, rfl⟩, by decide, GW_mem (tm4 223 (by decide +kernel)) (by decide +kernel), GW_mem (tp3 (q := (yX10_force, 9)) 0 (by decide +kernel)) (by decide +kernel), GW_mem (tm1 9 (by decide +kernel)) (by decide +kernel), GW_mem (tm4 224 (by decide +kernel)) (by decide +kernel), ⟨by decide +kernel, by decide +kernel⟩, by decide +kernel, by decide⟩
abbrev mX10_firstDriven : MI := (yX10_firstDriven, cX10_firstDriven, 2, (some .int))
theorem mvX10_firstDriven : MV mX10_firstDriven 10 0 := ⟨⟨_, _, rfl⟩, by decide, GW_mem (tm5 172 (by decide +kernel)) (by decide +kernel), GW_mem (tm5 173 (by decide +kernel)) (by decide +kernel), GW_mem (tm1 9 (by decide +kernel)) (by decide +kernel), GW_mem (tm5 174 (by decide +kernel)) (by decide +kernel), ⟨by decide +kernel, by decide +kernel⟩, by decide +kernel, by decide⟩
abbrev mX10_goOn : MI := (yX10_goOn, cX10_goOn, 5, (some .int))
theorem mvX10_goOn : MV mX10_goOn 10 1 := ⟨⟨_, _, rfl⟩, by decide, GW_mem (tm4 186 (by decide +kernel)) (by decide +kernel), GW_mem (tm4 187 (by decide +kernel)) (by decide +kernel), GW_mem (tm1 9 (by decide +kernel)) (by decide +kernel), GW_mem (tm4 188 (by decide +kernel)) (by decide +kernel), ⟨by decide +kernel, by decide +kernel⟩, by decide +kernel, by decide⟩
abbrev mX10_turnByHand : MI := (yX10_turnByHand, cX10_turnByHand, 6, (some .int))
theorem mvX10_turnByHand : MV mX10_turnByHand 10 2 := ⟨⟨_, _, rfl⟩, by decide, GW_mem (tm5 10 (by decide +kernel)) (by decide +kernel), GW_mem (tm5 11 (by decide +kernel)) (by decide +kernel), GW_mem (tm1 9 (by decide +kernel)) (by decide +kernel), GW_mem (tm5 12 (by decide +kernel)) (by decide +kernel), ⟨by decide +kernel, by decide +kernel⟩, by decide +kernel, by decide⟩
abbrev mX10_wrongQuarters : MI := (yX10_wrongQuarters, cX10_wrongQuarters, 7, (some .int))
theorem mvX10_wrongQuarters : MV mX10_wrongQuarters 10 2 := ⟨⟨_, _, rfl⟩, by decide, GW_mem (tm5 139 (by decide +kernel)) (by decide +kernel), GW_mem (tm5 140 (by decide +kernel)) (by decide +kernel), GW_mem (tm1 9 (by decide +kernel)) (by decide +kernel), GW_mem (tm5 141 (by decide +kernel)) (by decide +kernel), ⟨by decide +kernel, by decide +kernel⟩, by decide +kernel, by decide⟩
abbrev mX11_init : MI := (yX11_init, cX11_init, 2, none)
abbrev mX11_status : MI := (yX11_status, cX11_status, 1, (some .int))
theorem mvX11_status : MV mX11_status 11 0 := ⟨⟨_, _, rfl⟩, by decide, GW_mem (tm3 64 (by decide +kernel)) (by decide +kernel), GW_mem (tm3 65 (by decide +kernel)) (by decide +kernel), GW_mem (tm1 1 (by decide +kernel)) (by decide +kernel), GW_mem (tm3 66 (by decide +kernel)) (by decide +kernel), ⟨by decide +kernel, by decide +kernel⟩, by decide +kernel, by decide⟩
abbrev mX11_top : MI := (yX11_top, cX11_top, 1, (some .long))
theorem mvX11_top : MV mX11_top 11 0 := ⟨⟨_, _, rfl⟩, by decide, GW_mem (tm3 68 (by decide +kernel)) (by decide +kernel), GW_mem (tm3 69 (by decide +kernel)) (by decide +kernel), GW_mem (tm1 1 (by decide +kernel)) (by decide +kernel), GW_mem (tm3 70 (by decide +kernel)) (by decide +kernel), ⟨by decide +kernel, by decide +kernel⟩, by decide +kernel, by decide⟩
abbrev mX11_bottom : MI := (yX11_bottom, cX11_bottom, 1, (some .long))
theorem mvX11_bottom : MV mX11_bottom 11 0 := ⟨⟨_, _, rfl⟩, by decide, GW_mem (tm3 72 (by decide +kernel)) (by decide +kernel), GW_mem (tm3 73 (by decide +kernel)) (by decide +kernel), GW_mem (tm1 1 (by decide +kernel)) (by decide +kernel), GW_mem (tm3 74 (by decide +kernel)) (by decide +kernel), ⟨by decide +kernel, by decide +kernel⟩, by decide +kernel, by decide⟩
abbrev mX11_tray : MI := (yX11_tray, cX11_tray, 4, (some .boolean))
theorem mvX11_tray : MV mX11_tray 11 3 := ⟨⟨_, _, rfl⟩, by decide, GW_mem (tm3 76 (by decide +kernel)) (by decide +kernel), GW_mem (tm3 77 (by decide +kernel)) (by decide +kernel), GW_mem (tm1 1 (by decide +kernel)) (by decide +kernel), GW_mem (tm3 78 (by decide +kernel)) (by decide +kernel), ⟨by decide +kernel, by decide +kernel⟩, by decide +kernel, by decide⟩
abbrev mX11_write : MI := (yX11_write, cX11_write, 6, (some .boolean))
theorem mvX11_write : MV mX11_write 11 3 := ⟨⟨_, _, rfl⟩, by decide, GW_mem (tm3 96 (by decide +kernel)) (by decide +kernel), GW_mem (tm3 97 (by decide +kernel)) (by decide +kernel), GW_mem (tm1 1 (by decide +kernel)) (by decide +kernel), GW_mem (tm3 98 (by decide +kernel)) (by decide +kernel), ⟨by decide +kernel, by decide +kernel⟩, by decide +kernel, by decide⟩
abbrev mX11_read : MI := (yX11_read, cX11_read, 4, (some .long))
theorem mvX11_read : MV mX11_read 11 2 := ⟨⟨_, _, rfl⟩, by decide, GW_mem (tm3 112 (by decide +kernel)) (by decide +kernel), GW_mem (tm3 113 (by decide +kernel)) (by decide +kernel), GW_mem (tm1 1 (by decide +kernel)) (by decide +kernel), GW_mem (tm3 114 (by decide +kernel)) (by decide +kernel), ⟨by decide +kernel, by decide +kernel⟩, by decide +kernel, by decide⟩
abbrev mX11_pour : MI := (yX11_pour, cX11_pour, 8, (some .boolean))
theorem mvX11_pour : MV mX11_pour 11 5 := ⟨⟨_, _, rfl⟩, by decide, GW_mem (tm3 120 (by decide +kernel)) (by decide +kernel), GW_mem (tm3 121 (by decide +kernel)) (by decide +kernel), GW_mem (tm1 1 (by decide +kernel)) (by decide +kernel), GW_mem (tm3 122 (by decide +kernel)) (by decide +kernel), ⟨by decide +kernel, by decide +kernel⟩, by decide +kernel, by decide⟩
abbrev mX11_feed : MI := (yX11_feed, cX11_feed, 6, (some .int))
theorem mvX11_feed : MV mX11_feed 11 5 := ⟨⟨_, _, rfl⟩, by decide, GW_mem (tm3 131 (by decide +kernel)) (by decide +kernel), GW_mem (tm3 132 (by decide +kernel)) (by decide +kernel), GW_mem (tm1 1 (by decide +kernel)) (by decide +kernel), GW_mem (tm3 133 (by decide +kernel)) (by decide +kernel), ⟨by decide +kernel, by decide +kernel⟩, by decide +kernel, by decide⟩
abbrev mX11_village : MI := (yX11_village, cX11_village, 4, (some .int))
theorem mvX11_village : MV mX11_village 11 1 := ⟨⟨_, _, rfl⟩, by decide, GW_mem (tm3 143 (by decide +kernel)) (by decide +kernel), GW_mem (tm3 144 (by decide +kernel)) (by decide +kernel), GW_mem (tm1 1 (by decide +kernel)) (by decide +kernel), GW_mem (tm3 145 (by decide +kernel)) (by decide +kernel), ⟨by decide +kernel, by decide +kernel⟩, by decide +kernel, by decide⟩
abbrev mX11_orders : MI := (yX11_orders, cX11_orders, 4, (some .int))
theorem mvX11_orders : MV mX11_orders 11 1 := ⟨⟨_, _, rfl⟩, by decide, GW_mem (tm4 46 (by decide +kernel)) (by decide +kernel), GW_mem (tm4 47 (by decide +kernel)) (by decide +kernel), GW_mem (tm1 1 (by decide +kernel)) (by decide +kernel), GW_mem (tm4 48 (by decide +kernel)) (by decide +kernel), ⟨by decide +kernel, by decide +kernel⟩, by decide +kernel, by decide⟩
abbrev mX11_fault : MI := (yX11_fault, cX11_fault, 2, (some .int))
theorem mvX11_fault : MV mX11_fault 11 1 := ⟨⟨_, _, rfl⟩, by decide, GW_mem (tm4 107 (by decide +kernel)) (by decide +kernel), GW_mem (tm4 108 (by decide +kernel)) (by decide +kernel), GW_mem (tm1 1 (by decide +kernel)) (by decide +kernel), GW_mem (tm4 109 (by decide +kernel)) (by decide +kernel), ⟨by decide +kernel, by decide +kernel⟩, by decide +kernel, by decide⟩
abbrev mX11_told : MI := (yX11_told, cX11_told, 2, (some .int))
theorem mvX11_told : MV mX11_told 11 1 := ⟨⟨_, _, rfl⟩, by decide, GW_mem (tm4 111 (by decide +kernel)) (by decide +kernel), GW_mem (tm4 112 (by decide +kernel)) (by decide +kernel), GW_mem (tm1 1 (by decide +kernel)) (by decide +kernel), GW_mem (tm4 113 (by decide +kernel)) (by decide +kernel), ⟨by decide +kernel, by decide +kernel⟩, by decide +kernel, by decide⟩
abbrev mX11_vane : MI := (yX11_vane, cX11_vane, 3, (some .int))
theorem mvX11_vane : MV mX11_vane 11 2 := ⟨⟨_, _, rfl⟩, by decide, GW_mem (tm4 115 (by decide +kernel)) (by decide +kernel), GW_mem (tm4 116 (by decide +kernel)) (by decide +kernel), GW_mem (tm1 1 (by decide +kernel)) (by decide +kernel), GW_mem (tm4 117 (by decide +kernel)) (by decide +kernel), ⟨by decide +kernel, by decide +kernel⟩, by decide +kernel, by decide⟩
abbrev mX11_shaft : MI := (yX11_shaft, cX11_shaft, 3, (some .int))
theorem mvX11_shaft : MV mX11_shaft 11 2 := ⟨⟨_, _, rfl⟩, by decide, GW_mem (tm4 123 (by decide +kernel)) (by decide +kernel), GW_mem (tm4 124 (by decide +kernel)) (by decide +kernel), GW_mem (tm1 1 (by decide +kernel)) (by decide +kernel), GW_mem (tm4 125 (by decide +kernel)) (by decide +kernel), ⟨by decide +kernel, by decide +kernel⟩, by decide +kernel, by decide⟩
abbrev mX11_wants : MI := (yX11_wants, cX11_wants, 3, (some .int))
theorem mvX11_wants : MV mX11_wants 11 1 := ⟨⟨_, _, rfl⟩, by decide, GW_mem (tm4 131 (by decide +kernel)) (by decide +kernel), GW_mem (tm4 132 (by decide +kernel)) (by decide +kernel), GW_mem (tm1 1 (by decide +kernel)) (by decide +kernel), GW_mem (tm4 133 (by decide +kernel)) (by decide +kernel), ⟨by decide +kernel, by decide +kernel⟩, by decide +kernel, by decide⟩
abbrev mX11_right : MI := (yX11_right, cX11_right, 2, (some .int))
theorem mvX11_right : MV mX11_right 11 1 := ⟨⟨_, _, rfl⟩, by decide, GW_mem (tm4 151 (by decide +kernel)) (by decide +kernel), GW_mem (tm4 152 (by decide +kernel)) (by decide +kernel), GW_mem (tm1 1 (by decide +kernel)) (by decide +kernel), GW_mem (tm4 153 (by decide +kernel)) (by decide +kernel), ⟨by decide +kernel, by decide +kernel⟩, by decide +kernel, by decide⟩
abbrev mX11_wind : MI := (yX11_wind, cX11_wind, 4, (some .boolean))
theorem mvX11_wind : MV mX11_wind 11 3 := ⟨⟨_, _, rfl⟩, by decide, GW_mem (tm4 159 (by decide +kernel)) (by decide +kernel), GW_mem (tm4 160 (by decide +kernel)) (by decide +kernel), GW_mem (tm1 1 (by decide +kernel)) (by decide +kernel), GW_mem (tm4 161 (by decide +kernel)) (by decide +kernel), ⟨by decide +kernel, by decide +kernel⟩, by decide +kernel, by decide⟩
abbrev mX11_windAt : MI := (yX11_windAt, cX11_windAt, 3, (some .int))
theorem mvX11_windAt : MV mX11_windAt 11 2 := ⟨⟨_, _, rfl⟩, by decide, GW_mem (tm4 167 (by decide +kernel)) (by decide +kernel), GW_mem (tm4 168 (by decide +kernel)) (by decide +kernel), GW_mem (tm1 1 (by decide +kernel)) (by decide +kernel), GW_mem (tm4 169 (by decide +kernel)) (by decide +kernel), ⟨by decide +kernel, by decide +kernel⟩, by decide +kernel, by decide⟩
abbrev mX11_lift : MI := (yX11_lift, cX11_lift, 3, (some .boolean))
theorem mvX11_lift : MV mX11_lift 11 2 := ⟨⟨_, _, rfl⟩, by decide, GW_mem (tm4 171 (by decide +kernel)) (by decide +kernel), GW_mem (tm4 172 (by decide +kernel)) (by decide +kernel), GW_mem (tm1 1 (by decide +kernel)) (by decide +kernel), GW_mem (tm4 173 (by decide +kernel)) (by decide +kernel), ⟨by decide +kernel, by decide +kernel⟩, by decide +kernel, by decide⟩
abbrev mX11_hold : MI := (yX11_hold, cX11_hold, 3, (some .boolean))
theorem mvX11_hold : MV mX11_hold 11 2 := ⟨⟨_, _, rfl⟩, by decide, GW_mem (tm4 178 (by decide +kernel)) (by decide +kernel), GW_mem (tm4 179 (by decide +kernel)) (by decide +kernel), GW_mem (tm1 1 (by decide +kernel)) (by decide +kernel), GW_mem (tm4 180 (by decide +kernel)) (by decide +kernel), ⟨by decide +kernel, by decide +kernel⟩, by decide +kernel, by decide⟩
abbrev mX11_pass : MI := (yX11_pass, cX11_pass, 2, (some .int))
theorem mvX11_pass : MV mX11_pass 11 1 := ⟨⟨_, _, rfl⟩, by decide, GW_mem (tm4 182 (by decide +kernel)) (by decide +kernel), GW_mem (tm4 183 (by decide +kernel)) (by decide +kernel), GW_mem (tm1 1 (by decide +kernel)) (by decide +kernel), GW_mem (tm4 184 (by decide +kernel)) (by decide +kernel), ⟨by decide +kernel, by decide +kernel⟩, by decide +kernel, by decide⟩
abbrev mX11_turn : MI := (yX11_turn, cX11_turn, 3, (some .int))
theorem mvX11_turn : MV mX11_turn 11 2 := ⟨⟨_, _, rfl⟩, by decide, GW_mem (tm5 6 (by decide +kernel)) (by decide +kernel), GW_mem (tm5 7 (by decide +kernel)) (by decide +kernel), GW_mem (tm1 1 (by decide +kernel)) (by decide +kernel), GW_mem (tm5 8 (by decide +kernel)) (by decide +kernel), ⟨by decide +kernel, by decide +kernel⟩, by decide +kernel, by decide⟩
abbrev mX11_drags : MI := (yX11_drags, cX11_drags, 3, (some .int))
theorem mvX11_drags : MV mX11_drags 11 2 := ⟨⟨_, _, rfl⟩, by decide, GW_mem (tm5 17 (by decide +kernel)) (by decide +kernel), GW_mem (tm5 18 (by decide +kernel)) (by decide +kernel), GW_mem (tm1 1 (by decide +kernel)) (by decide +kernel), GW_mem (tm5 19 (by decide +kernel)) (by decide +kernel), ⟨by decide +kernel, by decide +kernel⟩, by decide +kernel, by decide⟩
abbrev mX11_joined : MI := (yX11_joined, cX11_joined, 2, (some .int))
theorem mvX11_joined : MV mX11_joined 11 1 := ⟨⟨_, _, rfl⟩, by decide, GW_mem (tm5 22 (by decide +kernel)) (by decide +kernel), GW_mem (tm5 23 (by decide +kernel)) (by decide +kernel), GW_mem (tm1 1 (by decide +kernel)) (by decide +kernel), GW_mem (tm5 24 (by decide +kernel)) (by decide +kernel), ⟨by decide +kernel, by decide +kernel⟩, by decide +kernel, by decide⟩
abbrev mX11_ratio : MI := (yX11_ratio, cX11_ratio, 3, (some .boolean))
theorem mvX11_ratio : MV mX11_ratio 11 2 := ⟨⟨_, _, rfl⟩, by decide, GW_mem (tm5 40 (by decide +kernel)) (by decide +kernel), GW_mem (tm5 41 (by decide +kernel)) (by decide +kernel), GW_mem (tm1 1 (by decide +kernel)) (by decide +kernel), GW_mem (tm5 42 (by decide +kernel)) (by decide +kernel), ⟨by decide +kernel, by decide +kernel⟩, by decide +kernel, by decide⟩
abbrev mX11_locked : MI := (yX11_locked, cX11_locked, 1, (some .int))
theorem mvX11_locked : MV mX11_locked 11 0 := ⟨⟨_, _, rfl⟩, by decide, GW_mem (tm5 55 (by decide +kernel)) (by decide +kernel), GW_mem (tm5 56 (by decide +kernel)) (by decide +kernel), GW_mem (tm1 1 (by decide +kernel)) (by decide +kernel), GW_mem (tm5 57 (by decide +kernel)) (by decide +kernel), ⟨by decide +kernel, by decide +kernel⟩, by decide +kernel, by decide⟩
abbrev mX11_common : MI := (yX11_common, cX11_common, 5, (some .long))
theorem mvX11_common : MV mX11_common 11 1 := ⟨⟨_, _, rfl⟩, by decide, GW_mem (tm5 68 (by decide +kernel)) (by decide +kernel), GW_mem (tm5 69 (by decide +kernel)) (by decide +kernel), GW_mem (tm1 1 (by decide +kernel)) (by decide +kernel), GW_mem (tm5 70 (by decide +kernel)) (by decide +kernel), ⟨by decide +kernel, by decide +kernel⟩, by decide +kernel, by decide⟩
abbrev mX11_sway : MI := (yX11_sway, cX11_sway, 4, (some .int))
theorem mvX11_sway : MV mX11_sway 11 2 := ⟨⟨_, _, rfl⟩, by decide, GW_mem (tm5 75 (by decide +kernel)) (by decide +kernel), GW_mem (tm5 76 (by decide +kernel)) (by decide +kernel), GW_mem (tm1 1 (by decide +kernel)) (by decide +kernel), GW_mem (tm5 77 (by decide +kernel)) (by decide +kernel), ⟨by decide +kernel, by decide +kernel⟩, by decide +kernel, by decide⟩
abbrev mX11_points : MI := (yX11_points, cX11_points, 3, (some .int))
theorem mvX11_points : MV mX11_points 11 2 := ⟨⟨_, _, rfl⟩, by decide, GW_mem (tm5 88 (by decide +kernel)) (by decide +kernel), GW_mem (tm5 89 (by decide +kernel)) (by decide +kernel), GW_mem (tm1 1 (by decide +kernel)) (by decide +kernel), GW_mem (tm5 90 (by decide +kernel)) (by decide +kernel), ⟨by decide +kernel, by decide +kernel⟩, by decide +kernel, by decide⟩
abbrev mX11_rights : MI := (yX11_rights, cX11_rights, 2, (some .int))
theorem mvX11_rights : MV mX11_rights 11 1 := ⟨⟨_, _, rfl⟩, by decide, GW_mem (tm5 105 (by decide +kernel)) (by decide +kernel), GW_mem (tm5 106 (by decide +kernel)) (by decide +kernel), GW_mem (tm1 1 (by decide +kernel)) (by decide +kernel), GW_mem (tm5 107 (by decide +kernel)) (by decide +kernel), ⟨by decide +kernel, by decide +kernel⟩, by decide +kernel, by decide⟩
abbrev mX11_again : MI := (yX11_again, cX11_again, 3, (some .int))
theorem mvX11_again : MV mX11_again 11 1 := ⟨⟨_, _, rfl⟩, by decide, GW_mem (tm5 114 (by decide +kernel)) (by decide +kernel), GW_mem (tm5 115 (by decide +kernel)) (by decide +kernel), GW_mem (tm1 1 (by decide +kernel)) (by decide +kernel), GW_mem (tm5 116 (by decide +kernel)) (by decide +kernel), ⟨by decide +kernel, by decide +kernel⟩, by decide +kernel, by decide⟩
abbrev mX11_strikes : MI := (yX11_strikes, cX11_strikes, 3, (some .int))
theorem mvX11_strikes : MV mX11_strikes 11 2 := ⟨⟨_, _, rfl⟩, by decide, GW_mem (tm5 122 (by decide +kernel)) (by decide +kernel), GW_mem (tm5 123 (by decide +kernel)) (by decide +kernel), GW_mem (tm1 1 (by decide +kernel)) (by decide +kernel), GW_mem (tm5 124 (by decide +kernel)) (by decide +kernel), ⟨by decide +kernel, by decide +kernel⟩, by decide +kernel, by decide⟩
abbrev mX11_bell : MI := (yX11_bell, cX11_bell, 3, (some .int))
theorem mvX11_bell : MV mX11_bell 11 2 := ⟨⟨_, _, rfl⟩, by decide, GW_mem (tm5 130 (by decide +kernel)) (by decide +kernel), GW_mem (tm5 131 (by decide +kernel)) (by decide +kernel), GW_mem (tm1 1 (by decide +kernel)) (by decide +kernel), GW_mem (tm5 132 (by decide +kernel)) (by decide +kernel), ⟨by decide +kernel, by decide +kernel⟩, by decide +kernel, by decide⟩
abbrev mX11_wrong : MI := (yX11_wrong, cX11_wrong, 3, (some .int))
theorem mvX11_wrong : MV mX11_wrong 11 2 := ⟨⟨_, _, rfl⟩, by decide, GW_mem (tm5 135 (by decide +kernel)) (by decide +kernel), GW_mem (tm5 136 (by decide +kernel)) (by decide +kernel), GW_mem (tm1 1 (by decide +kernel)) (by decide +kernel), GW_mem (tm5 137 (by decide +kernel)) (by decide +kernel), ⟨by decide +kernel, by decide +kernel⟩, by decide +kernel, by decide⟩
abbrev mX11_holding : MI := (yX11_holding, cX11_holding, 5, (some .int))
theorem mvX11_holding : MV mX11_holding 11 2 := ⟨⟨_, _, rfl⟩, by decide, GW_mem (tm5 151 (by decide +kernel)) (by decide +kernel), GW_mem (tm5 152 (by decide +kernel)) (by decide +kernel), GW_mem (tm1 1 (by decide +kernel)) (by decide +kernel), GW_mem (tm5 153 (by decide +kernel)) (by decide +kernel), ⟨by decide +kernel, by decide +kernel⟩, by decide +kernel, by decide⟩
abbrev mX11_helpers : MI := (yX11_helpers, cX11_helpers, 2, (some .int))
theorem mvX11_helpers : MV mX11_helpers 11 1 := ⟨⟨_, _, rfl⟩, by decide, GW_mem (tm5 159 (by decide +kernel)) (by decide +kernel), GW_mem (tm5 160 (by decide +kernel)) (by decide +kernel), GW_mem (tm1 1 (by decide +kernel)) (by decide +kernel), GW_mem (tm5 161 (by decide +kernel)) (by decide +kernel), ⟨by decide +kernel, by decide +kernel⟩, by decide +kernel, by decide⟩
abbrev mX11_firstToTurn : MI := (yX11_firstToTurn, cX11_firstToTurn, 2, (some .int))
theorem mvX11_firstToTurn : MV mX11_firstToTurn 11 0 := ⟨⟨_, _, rfl⟩, by decide, GW_mem (tm5 168 (by decide +kernel)) (by decide +kernel), GW_mem (tm5 169 (by decide +kernel)) (by decide +kernel), GW_mem (tm1 1 (by decide +kernel)) (by decide +kernel), GW_mem (tm5 170 (by decide +kernel)) (by decide +kernel), ⟨by decide +kernel, by decide +kernel⟩, by decide +kernel, by decide⟩
abbrev mX11_heaviest : MI := (yX11_heaviest, cX11_heaviest, 5, (some .int))
theorem mvX11_heaviest : MV mX11_heaviest 11 0 := ⟨⟨_, _, rfl⟩, by decide, GW_mem (tm5 176 (by decide +kernel)) (by decide +kernel), GW_mem (tm5 177 (by decide +kernel)) (by decide +kernel), GW_mem (tm1 1 (by decide +kernel)) (by decide +kernel), GW_mem (tm5 178 (by decide +kernel)) (by decide +kernel), ⟨by decide +kernel, by decide +kernel⟩, by decide +kernel, by decide⟩
abbrev mX11_farthest : MI := (yX11_farthest, cX11_farthest, 5, (some .int))
theorem mvX11_farthest : MV mX11_farthest 11 0 := ⟨⟨_, _, rfl⟩, by decide, GW_mem (tm5 187 (by decide +kernel)) (by decide +kernel), GW_mem (tm5 188 (by decide +kernel)) (by decide +kernel), GW_mem (tm1 1 (by decide +kernel)) (by decide +kernel), GW_mem (tm5 189 (by decide +kernel)) (by decide +kernel), ⟨by decide +kernel, by decide +kernel⟩, by decide +kernel, by decide⟩
abbrev mX11_calmed : MI := (yX11_calmed, cX11_calmed, 2, (some .int))
theorem mvX11_calmed : MV mX11_calmed 11 0 := ⟨⟨_, _, rfl⟩, by decide, GW_mem (tm5 195 (by decide +kernel)) (by decide +kernel), GW_mem (tm5 196 (by decide +kernel)) (by decide +kernel), GW_mem (tm1 1 (by decide +kernel)) (by decide +kernel), GW_mem (tm5 197 (by decide +kernel)) (by decide +kernel), ⟨by decide +kernel, by decide +kernel⟩, by decide +kernel, by decide⟩
abbrev mX11_teeth : MI := (yX11_teeth, cX11_teeth, 2, (some .int))
theorem mvX11_teeth : MV mX11_teeth 11 1 := ⟨⟨_, _, rfl⟩, by decide, GW_mem (tm5 199 (by decide +kernel)) (by decide +kernel), GW_mem (tm5 200 (by decide +kernel)) (by decide +kernel), GW_mem (tm1 1 (by decide +kernel)) (by decide +kernel), GW_mem (tm5 201 (by decide +kernel)) (by decide +kernel), ⟨by decide +kernel, by decide +kernel⟩, by decide +kernel, by decide⟩
abbrev mX11_bestWind : MI := (yX11_bestWind, cX11_bestWind, 7, (some .int))
theorem mvX11_bestWind : MV mX11_bestWind 11 2 := ⟨⟨_, _, rfl⟩, by decide, GW_mem (tm5 203 (by decide +kernel)) (by decide +kernel), GW_mem (tm5 204 (by decide +kernel)) (by decide +kernel), GW_mem (tm1 1 (by decide +kernel)) (by decide +kernel), GW_mem (tm5 205 (by decide +kernel)) (by decide +kernel), ⟨by decide +kernel, by decide +kernel⟩, by decide +kernel, by decide⟩
abbrev mX11_parting : MI := (yX11_parting, cX11_parting, 1, (some .int))
theorem mvX11_parting : MV mX11_parting 11 0 := ⟨⟨_, _, rfl⟩, by decide, GW_mem (tm5 221 (by decide +kernel)) (by decide +kernel), GW_mem (tm5 222 (by decide +kernel)) (by decide +kernel), GW_mem (tm1 1 (by decide +kernel)) (by decide +kernel), GW_mem (tm5 223 (by decide +kernel)) (by decide +kernel), ⟨by decide +kernel, by decide +kernel⟩, by decide +kernel, by decide⟩
abbrev mX11_mending : MI := (yX11_mending, cX11_mending, 6, (some .int))
theorem mvX11_mending : MV mX11_mending 11 1 := ⟨⟨_, _, rfl⟩, by decide, GW_mem (tm5 229 (by decide +kernel)) (by decide +kernel), GW_mem (tm5 230 (by decide +kernel)) (by decide +kernel), GW_mem (tm1 1 (by decide +kernel)) (by decide +kernel), GW_mem (tm5 231 (by decide +kernel)) (by decide +kernel), ⟨by decide +kernel, by decide +kernel⟩, by decide +kernel, by decide⟩
abbrev mX11_leaving : MI := (yX11_leaving, cX11_leaving, 2, (some .int))
theorem mvX11_leaving : MV mX11_leaving 11 1 := ⟨⟨_, _, rfl⟩, by decide, GW_mem (tm5 233 (by decide +kernel)) (by decide +kernel), GW_mem (tm5 234 (by decide +kernel)) (by decide +kernel), GW_mem (tm1 1 (by decide +kernel)) (by decide +kernel), GW_mem (tm5 235 (by decide +kernel)) (by decide +kernel), ⟨by decide +kernel, by decide +kernel⟩, by decide +kernel, by decide⟩
abbrev mX11_knowing : MI := (yX11_knowing, cX11_knowing, 6, (some .int))
theorem mvX11_knowing : MV mX11_knowing 11 1 := ⟨⟨_, _, rfl⟩, by decide, GW_mem (tm6 1 (by decide +kernel)) (by decide +kernel), GW_mem (tm6 2 (by decide +kernel)) (by decide +kernel), GW_mem (tm1 1 (by decide +kernel)) (by decide +kernel), GW_mem (tm6 3 (by decide +kernel)) (by decide +kernel), ⟨by decide +kernel, by decide +kernel⟩, by decide +kernel, by decide⟩
abbrev mX11_whole : MI := (yX11_whole, cX11_whole, 4, (some .int))
theorem mvX11_whole : MV mX11_whole 11 2 := ⟨⟨_, _, rfl⟩, by decide, GW_mem (tm6 5 (by decide +kernel)) (by decide +kernel), GW_mem (tm6 6 (by decide +kernel)) (by decide +kernel), GW_mem (tm1 1 (by decide +kernel)) (by decide +kernel), GW_mem (tm6 7 (by decide +kernel)) (by decide +kernel), ⟨by decide +kernel, by decide +kernel⟩, by decide +kernel, by decide⟩
abbrev mX11_broken : MI := (yX11_broken, cX11_broken, 6, (some .int))
theorem mvX11_broken : MV mX11_broken 11 2 := ⟨⟨_, _, rfl⟩, by decide, GW_mem (tm6 21 (by decide +kernel)) (by decide +kernel), GW_mem (tm6 22 (by decide +kernel)) (by decide +kernel), GW_mem (tm1 1 (by decide +kernel)) (by decide +kernel), GW_mem (tm6 23 (by decide +kernel)) (by decide +kernel), ⟨by decide +kernel, by decide +kernel⟩, by decide +kernel, by decide⟩
abbrev mX11_run : MI := (yX11_run, cX11_run, 2, (some .int))
theorem mvX11_run : MV mX11_run 11 1 := ⟨⟨_, _, rfl⟩, by decide, GW_mem (tm6 25 (by decide +kernel)) (by decide +kernel), GW_mem (tm6 26 (by decide +kernel)) (by decide +kernel), GW_mem (tm1 1 (by decide +kernel)) (by decide +kernel), GW_mem (tm6 27 (by decide +kernel)) (by decide +kernel), ⟨by decide +kernel, by decide +kernel⟩, by decide +kernel, by decide⟩
abbrev mX11_ran : MI := (yX11_ran, cX11_ran, 2, (some .int))
theorem mvX11_ran : MV mX11_ran 11 1 := ⟨⟨_, _, rfl⟩, by decide, GW_mem (tm6 71 (by decide +kernel)) (by decide +kernel), GW_mem (tm6 72 (by decide +kernel)) (by decide +kernel), GW_mem (tm1 1 (by decide +kernel)) (by decide +kernel), GW_mem (tm6 73 (by decide +kernel)) (by decide +kernel), ⟨by decide +kernel, by decide +kernel⟩, by decide +kernel, by decide⟩
abbrev mX11_ranTo : MI := (yX11_ranTo, cX11_ranTo, 2, (some .int))
theorem mvX11_ranTo : MV mX11_ranTo 11 1 := ⟨⟨_, _, rfl⟩, by decide, GW_mem (tm6 75 (by decide +kernel)) (by decide +kernel), GW_mem (tm6 76 (by decide +kernel)) (by decide +kernel), GW_mem (tm1 1 (by decide +kernel)) (by decide +kernel), GW_mem (tm6 77 (by decide +kernel)) (by decide +kernel), ⟨by decide +kernel, by decide +kernel⟩, by decide +kernel, by decide⟩
abbrev mX11_odds : MI := (yX11_odds, cX11_odds, 6, (some .boolean))
theorem mvX11_odds : MV mX11_odds 11 3 := ⟨⟨_, _, rfl⟩, by decide, GW_mem (tm6 79 (by decide +kernel)) (by decide +kernel), GW_mem (tm6 80 (by decide +kernel)) (by decide +kernel), GW_mem (tm1 1 (by decide +kernel)) (by decide +kernel), GW_mem (tm6 81 (by decide +kernel)) (by decide +kernel), ⟨by decide +kernel, by decide +kernel⟩, by decide +kernel, by decide⟩
abbrev mX11_mark : MI := (yX11_mark, cX11_mark, 1, (some .int))
theorem mvX11_mark : MV mX11_mark 11 0 := ⟨⟨_, _, rfl⟩, by decide, GW_mem (tm6 83 (by decide +kernel)) (by decide +kernel), GW_mem (tm6 84 (by decide +kernel)) (by decide +kernel), GW_mem (tm1 1 (by decide +kernel)) (by decide +kernel), GW_mem (tm6 85 (by decide +kernel)) (by decide +kernel), ⟨by decide +kernel, by decide +kernel⟩, by decide +kernel, by decide⟩
abbrev mX11_back : MI := (yX11_back, cX11_back, 1, (some .int))
theorem mvX11_back : MV mX11_back 11 0 := ⟨⟨_, _, rfl⟩, by decide, GW_mem (tm6 102 (by decide +kernel)) (by decide +kernel), GW_mem (tm6 103 (by decide +kernel)) (by decide +kernel), GW_mem (tm1 1 (by decide +kernel)) (by decide +kernel), GW_mem (tm6 104 (by decide +kernel)) (by decide +kernel), ⟨by decide +kernel, by decide +kernel⟩, by decide +kernel, by decide⟩
abbrev mX11_answer : MI := (yX11_answer, cX11_answer, 2, (some .int))
theorem mvX11_answer : MV mX11_answer 11 1 := ⟨⟨_, _, rfl⟩, by decide, GW_mem (tm4 43 (by decide +kernel)) (by decide +kernel), GW_mem (tp1 (q := (yX11_answer, 18)) 13 (by decide +kernel)) (by decide +kernel), GW_mem (tm1 1 (by decide +kernel)) (by decide +kernel), GW_mem (tm4 44 (by decide +kernel)) (by decide +kernel), ⟨by decide +kernel, by decide +kernel⟩, by decide +kernel, by decide⟩
abbrev mX11_agree : MI := (yX11_agree, cX11_agree, 1, (some .boolean))
theorem mvX11_agree : MV mX11_agree 11 0 := ⟨⟨_, _, rfl⟩, by decide, GW_mem (tm3 93 (by decide +kernel)) (by decide +kernel), GW_mem (tp1 (q := (yX11_agree, 18)) 2 (by decide +kernel)) (by decide +kernel), GW_mem (tm1 1 (by decide +kernel)) (by decide +kernel), GW_mem (tm3 94 (by decide +kernel)) (by decide +kernel), ⟨by decide +kernel, by decide +kernel⟩, by decide +kernel, by decide⟩
abbrev mX11_none : MI := (yX11_none, cX11_none, 2, (some .int))
theorem mvX11_none : MV mX11_none 11 1 := ⟨⟨_, _, rfl⟩, by decide, GW_mem (tm3 117 (by decide +kernel)) (by decide +kernel), GW_mem (tp1 (q := (yX11_none, 18)) 4 (by decide +kernel)) (by decide +kernel), GW_mem (tm1 1 (by decide +kernel)) (by decide +kernel), GW_mem (tm3 118 (by decide +kernel)) (by decide +kernel), ⟨by decide +kernel, by decide +kernel⟩, by decide +kernel, by decide⟩
abbrev mX11_refuse : MI := (yX11_refuse, cX11_refuse, 2, (some .boolean))
theorem mvX11_refuse : MV mX11_refuse 11 1 := ⟨⟨_, _, rfl⟩, by decide, GW_mem (tm3 85 (by decide +kernel)) (by decide +kernel), GW_mem (tp1 (q := (yX11_refuse, 18)) 1 (by decide +kernel)) (by decide +kernel), GW_mem (tm1 1 (by decide +kernel)) (by decide +kernel), GW_mem (tm3 86 (by decide +kernel)) (by decide +kernel), ⟨by decide +kernel, by decide +kernel⟩, by decide +kernel, by decide⟩
abbrev mX11_tellFraction : MI := (yX11_tellFraction, cX11_tellFraction, 7, none)
theorem mvX11_tellFraction : MV mX11_tellFraction 11 2 := ⟨⟨_, _, rfl⟩, by decide, GW_mem (tm5 46 (by decide +kernel)) (by decide +kernel), GW_mem (tp3 (q := (yX11_tellFraction, 18)) 8 (by decide +kernel)) (by decide +kernel), GW_mem (tm1 1 (by decide +kernel)) (by decide +kernel), GW_mem (tm5 47 (by decide +kernel)) (by decide +kernel), ⟨by decide +kernel, by decide +kernel⟩, by decide +kernel, by decide⟩
abbrev mX11_closeText : MI := (yX11_closeText, cX11_closeText, 1, none)
theorem mvX11_closeText : MV mX11_closeText 11 0 := ⟨⟨_, _, rfl⟩, by decide, GW_mem (tm4 27 (by decide +kernel)) (by decide +kernel), GW_mem (tp1 (q := (yX11_closeText, 18)) 12 (by decide +kernel)) (by decide +kernel), GW_mem (tm1 1 (by decide +kernel)) (by decide +kernel), GW_mem (tm4 28 (by decide +kernel)) (by decide +kernel), ⟨by decide +kernel, by decide +kernel⟩, by decide +kernel, by decide⟩
abbrev mX11_isTray : MI := (yX11_isTray, cX11_isTray, 2, (some .boolean))
theorem mvX11_isTray : MV mX11_isTray 11 1 := ⟨⟨_, _, rfl⟩, by decide, GW_mem (tm3 81 (by decide +kernel)) (by decide +kernel), GW_mem (tp1 (q := (yX11_isTray, 18)) 0 (by decide +kernel)) (by decide +kernel), GW_mem (tm1 1 (by decide +kernel)) (by decide +kernel), GW_mem (tm3 82 (by decide +kernel)) (by decide +kernel), ⟨by decide +kernel, by decide +kernel⟩, by decide +kernel, by decide⟩
abbrev mX11_isPlace : MI := (yX11_isPlace, cX11_isPlace, 2, (some .boolean))
theorem mvX11_isPlace : MV mX11_isPlace 11 1 := ⟨⟨_, _, rfl⟩, by decide, GW_mem (tm4 164 (by decide +kernel)) (by decide +kernel), GW_mem (tp2 (q := (yX11_isPlace, 18)) 10 (by decide +kernel)) (by decide +kernel), GW_mem (tm1 1 (by decide +kernel)) (by decide +kernel), GW_mem (tm4 165 (by decide +kernel)) (by decide +kernel), ⟨by decide +kernel, by decide +kernel⟩, by decide +kernel, by decide⟩
abbrev mX11_isVane : MI := (yX11_isVane, cX11_isVane, 2, (some .boolean))
theorem mvX11_isVane : MV mX11_isVane 11 1 := ⟨⟨_, _, rfl⟩, by decide, GW_mem (tm4 120 (by decide +kernel)) (by decide +kernel), GW_mem (tp2 (q := (yX11_isVane, 18)) 6 (by decide +kernel)) (by decide +kernel), GW_mem (tm1 1 (by decide +kernel)) (by decide +kernel), GW_mem (tm4 121 (by decide +kernel)) (by decide +kernel), ⟨by decide +kernel, by decide +kernel⟩, by decide +kernel, by decide⟩
abbrev mX11_isShaft : MI := (yX11_isShaft, cX11_isShaft, 2, (some .boolean))
theorem mvX11_isShaft : MV mX11_isShaft 11 1 := ⟨⟨_, _, rfl⟩, by decide, GW_mem (tm4 128 (by decide +kernel)) (by decide +kernel), GW_mem (tp2 (q := (yX11_isShaft, 18)) 7 (by decide +kernel)) (by decide +kernel), GW_mem (tm1 1 (by decide +kernel)) (by decide +kernel), GW_mem (tm4 129 (by decide +kernel)) (by decide +kernel), ⟨by decide +kernel, by decide +kernel⟩, by decide +kernel, by decide⟩
abbrev mX11_isAhead : MI := (yX11_isAhead, cX11_isAhead, 2, (some .boolean))
theorem mvX11_isAhead : MV mX11_isAhead 11 1 := ⟨⟨_, _, rfl⟩, by decide, GW_mem (tm5 93 (by decide +kernel)) (by decide +kernel), GW_mem (tp3 (q := (yX11_isAhead, 18)) 11 (by decide +kernel)) (by decide +kernel), GW_mem (tm1 1 (by decide +kernel)) (by decide +kernel), GW_mem (tm5 94 (by decide +kernel)) (by decide +kernel), ⟨by decide +kernel, by decide +kernel⟩, by decide +kernel, by decide⟩
abbrev mX11_isSpan : MI := (yX11_isSpan, cX11_isSpan, 2, (some .boolean))
theorem mvX11_isSpan : MV mX11_isSpan 11 1 := ⟨⟨_, _, rfl⟩, by decide, GW_mem (tm5 127 (by decide +kernel)) (by decide +kernel), GW_mem (tp3 (q := (yX11_isSpan, 18)) 14 (by decide +kernel)) (by decide +kernel), GW_mem (tm1 1 (by decide +kernel)) (by decide +kernel), GW_mem (tm5 128 (by decide +kernel)) (by decide +kernel), ⟨by decide +kernel, by decide +kernel⟩, by decide +kernel, by decide⟩
abbrev mX11_isBlowing : MI := (yX11_isBlowing, cX11_isBlowing, 2, (some .boolean))
theorem mvX11_isBlowing : MV mX11_isBlowing 11 1 := ⟨⟨_, _, rfl⟩, by decide, GW_mem (tm5 208 (by decide +kernel)) (by decide +kernel), GW_mem (tp4 (q := (yX11_isBlowing, 18)) 0 (by decide +kernel)) (by decide +kernel), GW_mem (tm1 1 (by decide +kernel)) (by decide +kernel), GW_mem (tm5 209 (by decide +kernel)) (by decide +kernel), ⟨by decide +kernel, by decide +kernel⟩, by decide +kernel, by decide⟩
abbrev mX11_allVanes : MI := (yX11_allVanes, cX11_allVanes, 1, (some .int))
theorem mvX11_allVanes : MV mX11_allVanes 11 0 := ⟨⟨_, _, rfl⟩, by decide, GW_mem (tm5 156 (by decide +kernel)) (by decide +kernel), GW_mem (tp3 (q := (yX11_allVanes, 18)) 15 (by decide +kernel)) (by decide +kernel), GW_mem (tm1 1 (by decide +kernel)) (by decide +kernel), GW_mem (tm5 157 (by decide +kernel)) (by decide +kernel), ⟨by decide +kernel, by decide +kernel⟩, by decide +kernel, by decide⟩
abbrev mX11_trayPlaceStatus : MI := (yX11_trayPlaceStatus, cX11_trayPlaceStatus, 3, (some .int))
theorem mvX11_trayPlaceStatus : MV mX11_trayPlaceStatus 11 2 := ⟨⟨_, _, rfl⟩, by decide, GW_mem (tm3 101 (by decide +kernel)) (by decide +kernel), GW_mem (tp1 (q := (yX11_trayPlaceStatus, 18)) 3 (by decide +kernel)) (by decide +kernel), GW_mem (tm1 1 (by decide +kernel)) (by decide +kernel), GW_mem (tm3 102 (by decide +kernel)) (by decide +kernel), ⟨by decide +kernel, by decide +kernel⟩, by decide +kernel, by decide⟩
abbrev mX11_seenStatus : MI := (yX11_seenStatus, cX11_seenStatus, 3, (some .int))
theorem mvX11_seenStatus : MV mX11_seenStatus 11 2 := ⟨⟨_, _, rfl⟩, by decide, GW_mem (tm6 10 (by decide +kernel)) (by decide +kernel), GW_mem (tp4 (q := (yX11_seenStatus, 18)) 3 (by decide +kernel)) (by decide +kernel), GW_mem (tm1 1 (by decide +kernel)) (by decide +kernel), GW_mem (tm6 11 (by decide +kernel)) (by decide +kernel), ⟨by decide +kernel, by decide +kernel⟩, by decide +kernel, by decide⟩
abbrev mX11_holdsTeeth : MI := (yX11_holdsTeeth, cX11_holdsTeeth, 7, (some .boolean))
theorem mvX11_holdsTeeth : MV mX11_holdsTeeth 11 2 := ⟨⟨_, _, rfl⟩, by decide, GW_mem (tm6 14 (by decide +kernel)) (by decide +kernel), GW_mem (tp4 (q := (yX11_holdsTeeth, 18)) 4 (by decide +kernel)) (by decide +kernel), GW_mem (tm1 1 (by decide +kernel)) (by decide +kernel), GW_mem (tm6 15 (by decide +kernel)) (by decide +kernel), ⟨by decide +kernel, by decide +kernel⟩, by decide +kernel, by decide⟩
abbrev mX11_workOnNow : MI := (yX11_workOnNow, cX11_workOnNow, 1, none)
theorem mvX11_workOnNow : MV mX11_workOnNow 11 0 := ⟨⟨_, _, rfl⟩, by decide, GW_mem (tm4 136 (by decide +kernel)) (by decide +kernel), GW_mem (tp2 (q := (yX11_workOnNow, 18)) 8 (by decide +kernel)) (by decide +kernel), GW_mem (tm1 1 (by decide +kernel)) (by decide +kernel), GW_mem (tm4 137 (by decide +kernel)) (by decide +kernel), ⟨by decide +kernel, by decide +kernel⟩, by decide +kernel, by decide⟩
abbrev mX11_look : MI := (yX11_look, cX11_look, 1, none)
theorem mvX11_look : MV mX11_look 11 0 := ⟨⟨_, _, rfl⟩, by decide, GW_mem (tm5 97 (by decide +kernel)) (by decide +kernel), GW_mem (tp3 (q := (yX11_look, 18)) 12 (by decide +kernel)) (by decide +kernel), GW_mem (tm1 1 (by decide +kernel)) (by decide +kernel), GW_mem (tm5 98 (by decide +kernel)) (by decide +kernel), ⟨by decide +kernel, by decide +kernel⟩, by decide +kernel, by decide⟩
abbrev mX11_quartersToCalm : MI := (yX11_quartersToCalm, cX11_quartersToCalm, 2, (some .int))
theorem mvX11_quartersToCalm : MV mX11_quartersToCalm 11 0 := ⟨⟨_, _, rfl⟩, by decide, GW_mem (tm5 119 (by decide +kernel)) (by decide +kernel), GW_mem (tp3 (q := (yX11_quartersToCalm, 18)) 13 (by decide +kernel)) (by decide +kernel), GW_mem (tm1 1 (by decide +kernel)) (by decide +kernel), GW_mem (tm5 120 (by decide +kernel)) (by decide +kernel), ⟨by decide +kernel, by decide +kernel⟩, by decide +kernel, by decide⟩
abbrev mX11_rightsBehind : MI := (yX11_rightsBehind, cX11_rightsBehind, 2, (some .int))
theorem mvX11_rightsBehind : MV mX11_rightsBehind 11 1 := ⟨⟨_, _, rfl⟩, by decide, GW_mem (tm5 217 (by decide +kernel)) (by decide +kernel), GW_mem (tp4 (q := (yX11_rightsBehind, 18)) 1 (by decide +kernel)) (by decide +kernel), GW_mem (tm1 1 (by decide +kernel)) (by decide +kernel), GW_mem (tm5 218 (by decide +kernel)) (by decide +kernel), ⟨by decide +kernel, by decide +kernel⟩, by decide +kernel, by decide⟩
abbrev mX11_leavingWinds : MI := (yX11_leavingWinds, cX11_leavingWinds, 4, (some .int))
theorem mvX11_leavingWinds : MV mX11_leavingWinds 11 1 := ⟨⟨_, _, rfl⟩, by decide, GW_mem (tm5 238 (by decide +kernel)) (by decide +kernel), GW_mem (tp4 (q := (yX11_leavingWinds, 18)) 2 (by decide +kernel)) (by decide +kernel), GW_mem (tm1 1 (by decide +kernel)) (by decide +kernel), GW_mem (tm5 239 (by decide +kernel)) (by decide +kernel), ⟨by decide +kernel, by decide +kernel⟩, by decide +kernel, by decide⟩
abbrev mX11_comesAsSeen : MI := (yX11_comesAsSeen, cX11_comesAsSeen, 5, (some .boolean))
theorem mvX11_comesAsSeen : MV mX11_comesAsSeen 11 2 := ⟨⟨_, _, rfl⟩, by decide, GW_mem (tm6 18 (by decide +kernel)) (by decide +kernel), GW_mem (tp4 (q := (yX11_comesAsSeen, 18)) 5 (by decide +kernel)) (by decide +kernel), GW_mem (tm1 1 (by decide +kernel)) (by decide +kernel), GW_mem (tm6 19 (by decide +kernel)) (by decide +kernel), ⟨by decide +kernel, by decide +kernel⟩, by decide +kernel, by decide⟩
abbrev mX11_has : MI := (yX11_has, cX11_has, 2, (some .boolean))
theorem msX11_has : MS mX11_has 2 := ⟨GW_mem (tm4 194 (by decide +kernel)) (by decide +kernel), GW_mem (tm1 1 (by decide +kernel)) (by decide +kernel), GW_mem (tm4 195 (by decide +kernel)) (by decide +kernel), ⟨by decide +kernel, by decide +kernel⟩, by decide +kernel, by decide⟩
abbrev mX11_with : MI := (yX11_with, cX11_with, 3, (some .int))
theorem msX11_with : MS mX11_with 3 := ⟨GW_mem (tm4 175 (by decide +kernel)) (by decide +kernel), GW_mem (tm1 1 (by decide +kernel)) (by decide +kernel), GW_mem (tm4 176 (by decide +kernel)) (by decide +kernel), ⟨by decide +kernel, by decide +kernel⟩, by decide +kernel, by decide⟩
abbrev mX11_greatestDivisor : MI := (yX11_greatestDivisor, cX11_greatestDivisor, 11, (some .long))
theorem msX11_greatestDivisor : MS mX11_greatestDivisor 2 := ⟨GW_mem (tm5 52 (by decide +kernel)) (by decide +kernel), GW_mem (tm1 1 (by decide +kernel)) (by decide +kernel), GW_mem (tm5 53 (by decide +kernel)) (by decide +kernel), ⟨by decide +kernel, by decide +kernel⟩, by decide +kernel, by decide⟩
abbrev mX11_leastMultiple : MI := (yX11_leastMultiple, cX11_leastMultiple, 6, (some .long))
theorem msX11_leastMultiple : MS mX11_leastMultiple 2 := ⟨GW_mem (tm5 72 (by decide +kernel)) (by decide +kernel), GW_mem (tm1 1 (by decide +kernel)) (by decide +kernel), GW_mem (tm5 73 (by decide +kernel)) (by decide +kernel), ⟨by decide +kernel, by decide +kernel⟩, by decide +kernel, by decide⟩
abbrev mX12_init : MI := (yX12_init, cX12_init, 1, none)
abbrev mX12_status : MI := (yX12_status, cX12_status, 1, (some .int))
theorem mvX12_status : MV mX12_status 12 0 := ⟨⟨_, _, rfl⟩, by decide, GW_mem (tm7 8 (by decide +kernel)) (by decide +kernel), GW_mem (tm7 9 (by decide +kernel)) (by decide +kernel), GW_mem (tm1 13 (by decide +kernel)) (by decide +kernel), GW_mem (tm7 10 (by decide +kernel)) (by decide +kernel), ⟨by decide +kernel, by decide +kernel⟩, by decide +kernel, by decide⟩
abbrev mX12_top : MI := (yX12_top, cX12_top, 1, (some .long))
theorem mvX12_top : MV mX12_top 12 0 := ⟨⟨_, _, rfl⟩, by decide, GW_mem (tm7 12 (by decide +kernel)) (by decide +kernel), GW_mem (tm7 13 (by decide +kernel)) (by decide +kernel), GW_mem (tm1 13 (by decide +kernel)) (by decide +kernel), GW_mem (tm7 14 (by decide +kernel)) (by decide +kernel), ⟨by decide +kernel, by decide +kernel⟩, by decide +kernel, by decide⟩
abbrev mX12_bottom : MI := (yX12_bottom, cX12_bottom, 1, (some .long))
theorem mvX12_bottom : MV mX12_bottom 12 0 := ⟨⟨_, _, rfl⟩, by decide, GW_mem (tm7 16 (by decide +kernel)) (by decide +kernel), GW_mem (tm7 17 (by decide +kernel)) (by decide +kernel), GW_mem (tm1 13 (by decide +kernel)) (by decide +kernel), GW_mem (tm7 18 (by decide +kernel)) (by decide +kernel), ⟨by decide +kernel, by decide +kernel⟩, by decide +kernel, by decide⟩
abbrev mX12_is : MI := (yX12_is, cX12_is, 2, (some .boolean))
theorem mvX12_is : MV mX12_is 12 1 := ⟨⟨_, _, rfl⟩, by decide, GW_mem (tm7 28 (by decide +kernel)) (by decide +kernel), GW_mem (tp4 (q := (yX12_is, 45)) 11 (by decide +kernel)) (by decide +kernel), GW_mem (tm1 13 (by decide +kernel)) (by decide +kernel), GW_mem (tm7 29 (by decide +kernel)) (by decide +kernel), ⟨by decide +kernel, by decide +kernel⟩, by decide +kernel, by decide⟩
abbrev mX12_refuse : MI := (yX12_refuse, cX12_refuse, 2, (some .int))
theorem mvX12_refuse : MV mX12_refuse 12 1 := ⟨⟨_, _, rfl⟩, by decide, GW_mem (tm7 88 (by decide +kernel)) (by decide +kernel), GW_mem (tp5 (q := (yX12_refuse, 45)) 1 (by decide +kernel)) (by decide +kernel), GW_mem (tm1 13 (by decide +kernel)) (by decide +kernel), GW_mem (tm7 89 (by decide +kernel)) (by decide +kernel), ⟨by decide +kernel, by decide +kernel⟩, by decide +kernel, by decide⟩
abbrev mX12_gives : MI := (yX12_gives, cX12_gives, 2, (some .int))
theorem mvX12_gives : MV mX12_gives 12 1 := ⟨⟨_, _, rfl⟩, by decide, GW_mem (tm7 205 (by decide +kernel)) (by decide +kernel), GW_mem (tp6 (q := (yX12_gives, 45)) 2 (by decide +kernel)) (by decide +kernel), GW_mem (tm1 13 (by decide +kernel)) (by decide +kernel), GW_mem (tm7 206 (by decide +kernel)) (by decide +kernel), ⟨by decide +kernel, by decide +kernel⟩, by decide +kernel, by decide⟩
abbrev mX12_orNone : MI := (yX12_orNone, cX12_orNone, 2, (some .int))
theorem mvX12_orNone : MV mX12_orNone 12 1 := ⟨⟨_, _, rfl⟩, by decide, GW_mem (tm8 231 (by decide +kernel)) (by decide +kernel), GW_mem (tp8 (q := (yX12_orNone, 45)) 6 (by decide +kernel)) (by decide +kernel), GW_mem (tm1 13 (by decide +kernel)) (by decide +kernel), GW_mem (tm8 232 (by decide +kernel)) (by decide +kernel), ⟨by decide +kernel, by decide +kernel⟩, by decide +kernel, by decide⟩
abbrev mX12_tellsBy : MI := (yX12_tellsBy, cX12_tellsBy, 11, (some .boolean))
theorem mvX12_tellsBy : MV mX12_tellsBy 12 2 := ⟨⟨_, _, rfl⟩, by decide, GW_mem (tm8 161 (by decide +kernel)) (by decide +kernel), GW_mem (tp8 (q := (yX12_tellsBy, 45)) 2 (by decide +kernel)) (by decide +kernel), GW_mem (tm1 13 (by decide +kernel)) (by decide +kernel), GW_mem (tm8 162 (by decide +kernel)) (by decide +kernel), ⟨by decide +kernel, by decide +kernel⟩, by decide +kernel, by decide⟩
abbrev mX12_isTray : MI := (yX12_isTray, cX12_isTray, 1, (some .boolean))
theorem msX12_isTray : MS mX12_isTray 1 := ⟨GW_mem (tm7 24 (by decide +kernel)) (by decide +kernel), GW_mem (tm1 13 (by decide +kernel)) (by decide +kernel), GW_mem (tm7 25 (by decide +kernel)) (by decide +kernel), ⟨by decide +kernel, by decide +kernel⟩, by decide +kernel, by decide⟩
abbrev mX12_cut : MI := (yX12_cut, cX12_cut, 3, (some .long))
theorem msX12_cut : MS mX12_cut 2 := ⟨GW_mem (tm7 39 (by decide +kernel)) (by decide +kernel), GW_mem (tm1 13 (by decide +kernel)) (by decide +kernel), GW_mem (tm7 40 (by decide +kernel)) (by decide +kernel), ⟨by decide +kernel, by decide +kernel⟩, by decide +kernel, by decide⟩
abbrev mX12_tray : MI := (yX12_tray, cX12_tray, 5, (some .boolean))
theorem mvX12_tray : MV mX12_tray 12 3 := ⟨⟨_, _, rfl⟩, by decide, GW_mem (tm7 20 (by decide +kernel)) (by decide +kernel), GW_mem (tm7 21 (by decide +kernel)) (by decide +kernel), GW_mem (tm1 13 (by decide +kernel)) (by decide +kernel), GW_mem (tm7 22 (by decide +kernel)) (by decide +kernel), ⟨by decide +kernel, by decide +kernel⟩, by decide +kernel, by decide⟩
abbrev mX12_wrongPlace : MI := (yX12_wrongPlace, cX12_wrongPlace, 3, (some .int))
theorem mvX12_wrongPlace : MV mX12_wrongPlace 12 2 := ⟨⟨_, _, rfl⟩, by decide, GW_mem (tm7 36 (by decide +kernel)) (by decide +kernel), GW_mem (tp4 (q := (yX12_wrongPlace, 45)) 12 (by decide +kernel)) (by decide +kernel), GW_mem (tm1 13 (by decide +kernel)) (by decide +kernel), GW_mem (tm7 37 (by decide +kernel)) (by decide +kernel), ⟨by decide +kernel, by decide +kernel⟩, by decide +kernel, by decide⟩
abbrev mX12_write : MI := (yX12_write, cX12_write, 6, (some .boolean))
theorem mvX12_write : MV mX12_write 12 3 := ⟨⟨_, _, rfl⟩, by decide, GW_mem (tm7 31 (by decide +kernel)) (by decide +kernel), GW_mem (tm7 32 (by decide +kernel)) (by decide +kernel), GW_mem (tm1 13 (by decide +kernel)) (by decide +kernel), GW_mem (tm7 33 (by decide +kernel)) (by decide +kernel), ⟨by decide +kernel, by decide +kernel⟩, by decide +kernel, by decide⟩
abbrev mX12_read : MI := (yX12_read, cX12_read, 3, (some .long))
theorem mvX12_read : MV mX12_read 12 2 := ⟨⟨_, _, rfl⟩, by decide, GW_mem (tm7 42 (by decide +kernel)) (by decide +kernel), GW_mem (tm7 43 (by decide +kernel)) (by decide +kernel), GW_mem (tm1 13 (by decide +kernel)) (by decide +kernel), GW_mem (tm7 44 (by decide +kernel)) (by decide +kernel), ⟨by decide +kernel, by decide +kernel⟩, by decide +kernel, by decide⟩
abbrev mX12_pour : MI := (yX12_pour, cX12_pour, 8, (some .boolean))
theorem mvX12_pour : MV mX12_pour 12 5 := ⟨⟨_, _, rfl⟩, by decide, GW_mem (tm7 47 (by decide +kernel)) (by decide +kernel), GW_mem (tm7 48 (by decide +kernel)) (by decide +kernel), GW_mem (tm1 13 (by decide +kernel)) (by decide +kernel), GW_mem (tm7 49 (by decide +kernel)) (by decide +kernel), ⟨by decide +kernel, by decide +kernel⟩, by decide +kernel, by decide⟩
abbrev mX12_isFrom : MI := (yX12_isFrom, cX12_isFrom, 6, (some .boolean))
theorem msX12_isFrom : MS mX12_isFrom 3 := ⟨GW_mem (tm8 48 (by decide +kernel)) (by decide +kernel), GW_mem (tm1 13 (by decide +kernel)) (by decide +kernel), GW_mem (tm8 49 (by decide +kernel)) (by decide +kernel), ⟨by decide +kernel, by decide +kernel⟩, by decide +kernel, by decide⟩
abbrev mX12_feed : MI := (yX12_feed, cX12_feed, 6, (some .int))
theorem mvX12_feed : MV mX12_feed 12 5 := ⟨⟨_, _, rfl⟩, by decide, GW_mem (tm7 51 (by decide +kernel)) (by decide +kernel), GW_mem (tm7 52 (by decide +kernel)) (by decide +kernel), GW_mem (tm1 13 (by decide +kernel)) (by decide +kernel), GW_mem (tm7 53 (by decide +kernel)) (by decide +kernel), ⟨by decide +kernel, by decide +kernel⟩, by decide +kernel, by decide⟩
abbrev mX12_four : MI := (yX12_four, cX12_four, 3, none)
theorem mvX12_four : MV mX12_four 12 1 := ⟨⟨_, _, rfl⟩, by decide, GW_mem (tm7 56 (by decide +kernel)) (by decide +kernel), GW_mem (tp4 (q := (yX12_four, 45)) 13 (by decide +kernel)) (by decide +kernel), GW_mem (tm1 13 (by decide +kernel)) (by decide +kernel), GW_mem (tm7 57 (by decide +kernel)) (by decide +kernel), ⟨by decide +kernel, by decide +kernel⟩, by decide +kernel, by decide⟩
abbrev mX12_byteAt : MI := (yX12_byteAt, cX12_byteAt, 2, (some .int))
theorem mvX12_byteAt : MV mX12_byteAt 12 1 := ⟨⟨_, _, rfl⟩, by decide, GW_mem (tm7 76 (by decide +kernel)) (by decide +kernel), GW_mem (tp5 (q := (yX12_byteAt, 45)) 0 (by decide +kernel)) (by decide +kernel), GW_mem (tm1 13 (by decide +kernel)) (by decide +kernel), GW_mem (tm7 77 (by decide +kernel)) (by decide +kernel), ⟨by decide +kernel, by decide +kernel⟩, by decide +kernel, by decide⟩
abbrev mX12_isSmall : MI := (yX12_isSmall, cX12_isSmall, 1, (some .boolean))
theorem msX12_isSmall : MS mX12_isSmall 1 := ⟨GW_mem (tm7 79 (by decide +kernel)) (by decide +kernel), GW_mem (tm1 13 (by decide +kernel)) (by decide +kernel), GW_mem (tm7 80 (by decide +kernel)) (by decide +kernel), ⟨by decide +kernel, by decide +kernel⟩, by decide +kernel, by decide⟩
abbrev mX12_isDigit : MI := (yX12_isDigit, cX12_isDigit, 1, (some .boolean))
theorem msX12_isDigit : MS mX12_isDigit 1 := ⟨GW_mem (tm7 82 (by decide +kernel)) (by decide +kernel), GW_mem (tm1 13 (by decide +kernel)) (by decide +kernel), GW_mem (tm7 83 (by decide +kernel)) (by decide +kernel), ⟨by decide +kernel, by decide +kernel⟩, by decide +kernel, by decide⟩
abbrev mX12_ahead : MI := (yX12_ahead, cX12_ahead, 2, none)
theorem mvX12_ahead : MV mX12_ahead 12 0 := ⟨⟨_, _, rfl⟩, by decide, GW_mem (tm7 72 (by decide +kernel)) (by decide +kernel), GW_mem (tp4 (q := (yX12_ahead, 45)) 15 (by decide +kernel)) (by decide +kernel), GW_mem (tm1 13 (by decide +kernel)) (by decide +kernel), GW_mem (tm7 73 (by decide +kernel)) (by decide +kernel), ⟨by decide +kernel, by decide +kernel⟩, by decide +kernel, by decide⟩
abbrev mX12_isSign : MI := (yX12_isSign, cX12_isSign, 2, (some .boolean))
theorem mvX12_isSign : MV mX12_isSign 12 1 := ⟨⟨_, _, rfl⟩, by decide, GW_mem (tm7 197 (by decide +kernel)) (by decide +kernel), GW_mem (tp6 (q := (yX12_isSign, 45)) 0 (by decide +kernel)) (by decide +kernel), GW_mem (tm1 13 (by decide +kernel)) (by decide +kernel), GW_mem (tm7 198 (by decide +kernel)) (by decide +kernel), ⟨by decide +kernel, by decide +kernel⟩, by decide +kernel, by decide⟩
abbrev mX12_inWords : MI := (yX12_inWords, cX12_inWords, 7, (some .int))
theorem mvX12_inWords : MV mX12_inWords 12 1 := ⟨⟨_, _, rfl⟩, by decide, GW_mem (tm7 97 (by decide +kernel)) (by decide +kernel), GW_mem (tp5 (q := (yX12_inWords, 45)) 3 (by decide +kernel)) (by decide +kernel), GW_mem (tm1 13 (by decide +kernel)) (by decide +kernel), GW_mem (tm7 98 (by decide +kernel)) (by decide +kernel), ⟨by decide +kernel, by decide +kernel⟩, by decide +kernel, by decide⟩
abbrev mX12_fails : MI := (yX12_fails, cX12_fails, 2, (some .boolean))
theorem mvX12_fails : MV mX12_fails 12 1 := ⟨⟨_, _, rfl⟩, by decide, GW_mem (tm7 153 (by decide +kernel)) (by decide +kernel), GW_mem (tp5 (q := (yX12_fails, 45)) 5 (by decide +kernel)) (by decide +kernel), GW_mem (tm1 13 (by decide +kernel)) (by decide +kernel), GW_mem (tm7 154 (by decide +kernel)) (by decide +kernel), ⟨by decide +kernel, by decide +kernel⟩, by decide +kernel, by decide⟩
abbrev mX12_begins : MI := (yX12_begins, cX12_begins, 4, (some .boolean))
theorem mvX12_begins : MV mX12_begins 12 2 := ⟨⟨_, _, rfl⟩, by decide, GW_mem (tm7 68 (by decide +kernel)) (by decide +kernel), GW_mem (tp4 (q := (yX12_begins, 45)) 14 (by decide +kernel)) (by decide +kernel), GW_mem (tm1 13 (by decide +kernel)) (by decide +kernel), GW_mem (tm7 69 (by decide +kernel)) (by decide +kernel), ⟨by decide +kernel, by decide +kernel⟩, by decide +kernel, by decide⟩
abbrev mX12_wantSign : MI := (yX12_wantSign, cX12_wantSign, 2, (some .boolean))
theorem mvX12_wantSign : MV mX12_wantSign 12 1 := ⟨⟨_, _, rfl⟩, by decide, GW_mem (tm7 193 (by decide +kernel)) (by decide +kernel), GW_mem (tp5 (q := (yX12_wantSign, 45)) 15 (by decide +kernel)) (by decide +kernel), GW_mem (tm1 13 (by decide +kernel)) (by decide +kernel), GW_mem (tm7 194 (by decide +kernel)) (by decide +kernel), ⟨by decide +kernel, by decide +kernel⟩, by decide +kernel, by decide⟩
abbrev mX12_wantWord : MI := (yX12_wantWord, cX12_wantWord, 3, (some .boolean))
theorem mvX12_wantWord : MV mX12_wantWord 12 2 := ⟨⟨_, _, rfl⟩, by decide, GW_mem (tm7 177 (by decide +kernel)) (by decide +kernel), GW_mem (tp5 (q := (yX12_wantWord, 45)) 11 (by decide +kernel)) (by decide +kernel), GW_mem (tm1 13 (by decide +kernel)) (by decide +kernel), GW_mem (tm7 178 (by decide +kernel)) (by decide +kernel), ⟨by decide +kernel, by decide +kernel⟩, by decide +kernel, by decide⟩
abbrev mX12_number : MI := (yX12_number, cX12_number, 4, (some .boolean))
theorem mvX12_number : MV mX12_number 12 3 := ⟨⟨_, _, rfl⟩, by decide, GW_mem (tm7 181 (by decide +kernel)) (by decide +kernel), GW_mem (tp5 (q := (yX12_number, 45)) 12 (by decide +kernel)) (by decide +kernel), GW_mem (tm1 13 (by decide +kernel)) (by decide +kernel), GW_mem (tm7 182 (by decide +kernel)) (by decide +kernel), ⟨by decide +kernel, by decide +kernel⟩, by decide +kernel, by decide⟩
abbrev mX12_isName : MI := (yX12_isName, cX12_isName, 2, (some .boolean))
theorem mvX12_isName : MV mX12_isName 12 1 := ⟨⟨_, _, rfl⟩, by decide, GW_mem (tm7 157 (by decide +kernel)) (by decide +kernel), GW_mem (tp5 (q := (yX12_isName, 45)) 6 (by decide +kernel)) (by decide +kernel), GW_mem (tm1 13 (by decide +kernel)) (by decide +kernel), GW_mem (tm7 158 (by decide +kernel)) (by decide +kernel), ⟨by decide +kernel, by decide +kernel⟩, by decide +kernel, by decide⟩
abbrev mX12_nameHere : MI := (yX12_nameHere, cX12_nameHere, 4, (some .long))
theorem mvX12_nameHere : MV mX12_nameHere 12 0 := ⟨⟨_, _, rfl⟩, by decide, GW_mem (tm7 169 (by decide +kernel)) (by decide +kernel), GW_mem (tp5 (q := (yX12_nameHere, 45)) 9 (by decide +kernel)) (by decide +kernel), GW_mem (tm1 13 (by decide +kernel)) (by decide +kernel), GW_mem (tm7 170 (by decide +kernel)) (by decide +kernel), ⟨by decide +kernel, by decide +kernel⟩, by decide +kernel, by decide⟩
abbrev mX12_findHere : MI := (yX12_findHere, cX12_findHere, 4, (some .int))
theorem mvX12_findHere : MV mX12_findHere 12 2 := ⟨⟨_, _, rfl⟩, by decide, GW_mem (tm7 165 (by decide +kernel)) (by decide +kernel), GW_mem (tp5 (q := (yX12_findHere, 45)) 8 (by decide +kernel)) (by decide +kernel), GW_mem (tm1 13 (by decide +kernel)) (by decide +kernel), GW_mem (tm7 166 (by decide +kernel)) (by decide +kernel), ⟨by decide +kernel, by decide +kernel⟩, by decide +kernel, by decide⟩
abbrev mX12_fault : MI := (yX12_fault, cX12_fault, 2, (some .int))
theorem mvX12_fault : MV mX12_fault 12 1 := ⟨⟨_, _, rfl⟩, by decide, GW_mem (tm7 59 (by decide +kernel)) (by decide +kernel), GW_mem (tm7 60 (by decide +kernel)) (by decide +kernel), GW_mem (tm1 13 (by decide +kernel)) (by decide +kernel), GW_mem (tm7 61 (by decide +kernel)) (by decide +kernel), ⟨by decide +kernel, by decide +kernel⟩, by decide +kernel, by decide⟩
abbrev mX12_taken : MI := (yX12_taken, cX12_taken, 2, (some .int))
theorem mvX12_taken : MV mX12_taken 12 1 := ⟨⟨_, _, rfl⟩, by decide, GW_mem (tm7 201 (by decide +kernel)) (by decide +kernel), GW_mem (tp6 (q := (yX12_taken, 45)) 1 (by decide +kernel)) (by decide +kernel), GW_mem (tm1 13 (by decide +kernel)) (by decide +kernel), GW_mem (tm7 202 (by decide +kernel)) (by decide +kernel), ⟨by decide +kernel, by decide +kernel⟩, by decide +kernel, by decide⟩
abbrev mX12_isNew : MI := (yX12_isNew, cX12_isNew, 1, (some .boolean))
theorem mvX12_isNew : MV mX12_isNew 12 0 := ⟨⟨_, _, rfl⟩, by decide, GW_mem (tm7 161 (by decide +kernel)) (by decide +kernel), GW_mem (tp5 (q := (yX12_isNew, 45)) 7 (by decide +kernel)) (by decide +kernel), GW_mem (tm1 13 (by decide +kernel)) (by decide +kernel), GW_mem (tm7 162 (by decide +kernel)) (by decide +kernel), ⟨by decide +kernel, by decide +kernel⟩, by decide +kernel, by decide⟩
abbrev mX12_newOne : MI := (yX12_newOne, cX12_newOne, 4, (some .boolean))
theorem mvX12_newOne : MV mX12_newOne 12 3 := ⟨⟨_, _, rfl⟩, by decide, GW_mem (tm7 149 (by decide +kernel)) (by decide +kernel), GW_mem (tp5 (q := (yX12_newOne, 45)) 4 (by decide +kernel)) (by decide +kernel), GW_mem (tm1 13 (by decide +kernel)) (by decide +kernel), GW_mem (tm7 150 (by decide +kernel)) (by decide +kernel), ⟨by decide +kernel, by decide +kernel⟩, by decide +kernel, by decide⟩
abbrev mX12_oldOne : MI := (yX12_oldOne, cX12_oldOne, 4, (some .boolean))
theorem mvX12_oldOne : MV mX12_oldOne 12 3 := ⟨⟨_, _, rfl⟩, by decide, GW_mem (tm7 185 (by decide +kernel)) (by decide +kernel), GW_mem (tp5 (q := (yX12_oldOne, 45)) 13 (by decide +kernel)) (by decide +kernel), GW_mem (tm1 13 (by decide +kernel)) (by decide +kernel), GW_mem (tm7 186 (by decide +kernel)) (by decide +kernel), ⟨by decide +kernel, by decide +kernel⟩, by decide +kernel, by decide⟩
abbrev mX12_aVane : MI := (yX12_aVane, cX12_aVane, 3, (some .boolean))
theorem mvX12_aVane : MV mX12_aVane 12 0 := ⟨⟨_, _, rfl⟩, by decide, GW_mem (tm7 173 (by decide +kernel)) (by decide +kernel), GW_mem (tp5 (q := (yX12_aVane, 45)) 10 (by decide +kernel)) (by decide +kernel), GW_mem (tm1 13 (by decide +kernel)) (by decide +kernel), GW_mem (tm7 174 (by decide +kernel)) (by decide +kernel), ⟨by decide +kernel, by decide +kernel⟩, by decide +kernel, by decide⟩
abbrev mX12_aShaft : MI := (yX12_aShaft, cX12_aShaft, 3, (some .boolean))
theorem mvX12_aShaft : MV mX12_aShaft 12 1 := ⟨⟨_, _, rfl⟩, by decide, GW_mem (tm7 189 (by decide +kernel)) (by decide +kernel), GW_mem (tp5 (q := (yX12_aShaft, 45)) 14 (by decide +kernel)) (by decide +kernel), GW_mem (tm1 13 (by decide +kernel)) (by decide +kernel), GW_mem (tm7 190 (by decide +kernel)) (by decide +kernel), ⟨by decide +kernel, by decide +kernel⟩, by decide +kernel, by decide⟩
abbrev mX12_villagePart : MI := (yX12_villagePart, cX12_villagePart, 2, (some .boolean))
theorem mvX12_villagePart : MV mX12_villagePart 12 0 := ⟨⟨_, _, rfl⟩, by decide, GW_mem (tm7 92 (by decide +kernel)) (by decide +kernel), GW_mem (tp5 (q := (yX12_villagePart, 45)) 2 (by decide +kernel)) (by decide +kernel), GW_mem (tm1 13 (by decide +kernel)) (by decide +kernel), GW_mem (tm7 93 (by decide +kernel)) (by decide +kernel), ⟨by decide +kernel, by decide +kernel⟩, by decide +kernel, by decide⟩
abbrev mX12_village : MI := (yX12_village, cX12_village, 4, (some .int))
theorem mvX12_village : MV mX12_village 12 1 := ⟨⟨_, _, rfl⟩, by decide, GW_mem (tm7 63 (by decide +kernel)) (by decide +kernel), GW_mem (tm7 64 (by decide +kernel)) (by decide +kernel), GW_mem (tm1 13 (by decide +kernel)) (by decide +kernel), GW_mem (tm7 65 (by decide +kernel)) (by decide +kernel), ⟨by decide +kernel, by decide +kernel⟩, by decide +kernel, by decide⟩
abbrev mX12_orderName : MI := (yX12_orderName, cX12_orderName, 4, (some .boolean))
theorem mvX12_orderName : MV mX12_orderName 12 3 := ⟨⟨_, _, rfl⟩, by decide, GW_mem (tm7 221 (by decide +kernel)) (by decide +kernel), GW_mem (tp6 (q := (yX12_orderName, 45)) 5 (by decide +kernel)) (by decide +kernel), GW_mem (tm1 13 (by decide +kernel)) (by decide +kernel), GW_mem (tm7 222 (by decide +kernel)) (by decide +kernel), ⟨by decide +kernel, by decide +kernel⟩, by decide +kernel, by decide⟩
abbrev mX12_aTest : MI := (yX12_aTest, cX12_aTest, 3, (some .boolean))
theorem mvX12_aTest : MV mX12_aTest 12 1 := ⟨⟨_, _, rfl⟩, by decide, GW_mem (tm7 225 (by decide +kernel)) (by decide +kernel), GW_mem (tp6 (q := (yX12_aTest, 45)) 6 (by decide +kernel)) (by decide +kernel), GW_mem (tm1 13 (by decide +kernel)) (by decide +kernel), GW_mem (tm7 226 (by decide +kernel)) (by decide +kernel), ⟨by decide +kernel, by decide +kernel⟩, by decide +kernel, by decide⟩
abbrev mX12_order : MI := (yX12_order, cX12_order, 3, (some .boolean))
theorem mvX12_order : MV mX12_order 12 2 := ⟨⟨_, _, rfl⟩, by decide, GW_mem (tm7 217 (by decide +kernel)) (by decide +kernel), GW_mem (tp6 (q := (yX12_order, 45)) 4 (by decide +kernel)) (by decide +kernel), GW_mem (tm1 13 (by decide +kernel)) (by decide +kernel), GW_mem (tm7 218 (by decide +kernel)) (by decide +kernel), ⟨by decide +kernel, by decide +kernel⟩, by decide +kernel, by decide⟩
abbrev mX12_step : MI := (yX12_step, cX12_step, 7, (some .boolean))
theorem mvX12_step : MV mX12_step 12 0 := ⟨⟨_, _, rfl⟩, by decide, GW_mem (tm7 213 (by decide +kernel)) (by decide +kernel), GW_mem (tp6 (q := (yX12_step, 45)) 3 (by decide +kernel)) (by decide +kernel), GW_mem (tm1 13 (by decide +kernel)) (by decide +kernel), GW_mem (tm7 214 (by decide +kernel)) (by decide +kernel), ⟨by decide +kernel, by decide +kernel⟩, by decide +kernel, by decide⟩
abbrev mX12_orders : MI := (yX12_orders, cX12_orders, 4, (some .int))
theorem mvX12_orders : MV mX12_orders 12 1 := ⟨⟨_, _, rfl⟩, by decide, GW_mem (tm7 208 (by decide +kernel)) (by decide +kernel), GW_mem (tm7 209 (by decide +kernel)) (by decide +kernel), GW_mem (tm1 13 (by decide +kernel)) (by decide +kernel), GW_mem (tm7 210 (by decide +kernel)) (by decide +kernel), ⟨by decide +kernel, by decide +kernel⟩, by decide +kernel, by decide⟩
abbrev mX12_isPlace : MI := (yX12_isPlace, cX12_isPlace, 2, (some .boolean))
theorem mvX12_isPlace : MV mX12_isPlace 12 1 := ⟨⟨_, _, rfl⟩, by decide, GW_mem (tm8 41 (by decide +kernel)) (by decide +kernel), GW_mem (tp6 (q := (yX12_isPlace, 45)) 14 (by decide +kernel)) (by decide +kernel), GW_mem (tm1 13 (by decide +kernel)) (by decide +kernel), GW_mem (tm8 42 (by decide +kernel)) (by decide +kernel), ⟨by decide +kernel, by decide +kernel⟩, by decide +kernel, by decide⟩
abbrev mX12_isVane : MI := (yX12_isVane, cX12_isVane, 2, (some .boolean))
theorem mvX12_isVane : MV mX12_isVane 12 1 := ⟨⟨_, _, rfl⟩, by decide, GW_mem (tm7 237 (by decide +kernel)) (by decide +kernel), GW_mem (tp6 (q := (yX12_isVane, 45)) 7 (by decide +kernel)) (by decide +kernel), GW_mem (tm1 13 (by decide +kernel)) (by decide +kernel), GW_mem (tm7 238 (by decide +kernel)) (by decide +kernel), ⟨by decide +kernel, by decide +kernel⟩, by decide +kernel, by decide⟩
abbrev mX12_isShaft : MI := (yX12_isShaft, cX12_isShaft, 2, (some .boolean))
theorem mvX12_isShaft : MV mX12_isShaft 12 1 := ⟨⟨_, _, rfl⟩, by decide, GW_mem (tm8 5 (by decide +kernel)) (by decide +kernel), GW_mem (tp6 (q := (yX12_isShaft, 45)) 8 (by decide +kernel)) (by decide +kernel), GW_mem (tm1 13 (by decide +kernel)) (by decide +kernel), GW_mem (tm8 6 (by decide +kernel)) (by decide +kernel), ⟨by decide +kernel, by decide +kernel⟩, by decide +kernel, by decide⟩
abbrev mX12_isAhead : MI := (yX12_isAhead, cX12_isAhead, 1, (some .boolean))
theorem msX12_isAhead : MS mX12_isAhead 1 := ⟨GW_mem (tm8 180 (by decide +kernel)) (by decide +kernel), GW_mem (tm1 13 (by decide +kernel)) (by decide +kernel), GW_mem (tm8 181 (by decide +kernel)) (by decide +kernel), ⟨by decide +kernel, by decide +kernel⟩, by decide +kernel, by decide⟩
abbrev mX12_isSpan : MI := (yX12_isSpan, cX12_isSpan, 1, (some .boolean))
theorem msX12_isSpan : MS mX12_isSpan 1 := ⟨GW_mem (tm8 203 (by decide +kernel)) (by decide +kernel), GW_mem (tm1 13 (by decide +kernel)) (by decide +kernel), GW_mem (tm8 204 (by decide +kernel)) (by decide +kernel), ⟨by decide +kernel, by decide +kernel⟩, by decide +kernel, by decide⟩
abbrev mX12_vaneAt : MI := (yX12_vaneAt, cX12_vaneAt, 3, (some .int))
theorem mvX12_vaneAt : MV mX12_vaneAt 12 2 := ⟨⟨_, _, rfl⟩, by decide, GW_mem (tm8 21 (by decide +kernel)) (by decide +kernel), GW_mem (tp6 (q := (yX12_vaneAt, 45)) 11 (by decide +kernel)) (by decide +kernel), GW_mem (tm1 13 (by decide +kernel)) (by decide +kernel), GW_mem (tm8 22 (by decide +kernel)) (by decide +kernel), ⟨by decide +kernel, by decide +kernel⟩, by decide +kernel, by decide⟩
abbrev mX12_shaftAt : MI := (yX12_shaftAt, cX12_shaftAt, 3, (some .int))
theorem mvX12_shaftAt : MV mX12_shaftAt 12 2 := ⟨⟨_, _, rfl⟩, by decide, GW_mem (tm8 92 (by decide +kernel)) (by decide +kernel), GW_mem (tp7 (q := (yX12_shaftAt, 45)) 5 (by decide +kernel)) (by decide +kernel), GW_mem (tm1 13 (by decide +kernel)) (by decide +kernel), GW_mem (tm8 93 (by decide +kernel)) (by decide +kernel), ⟨by decide +kernel, by decide +kernel⟩, by decide +kernel, by decide⟩
abbrev mX12_begins0 : MI := (yX12_begins0, cX12_begins0, 2, none)
theorem mvX12_begins0 : MV mX12_begins0 12 0 := ⟨⟨_, _, rfl⟩, by decide, GW_mem (tm8 13 (by decide +kernel)) (by decide +kernel), GW_mem (tp6 (q := (yX12_begins0, 45)) 9 (by decide +kernel)) (by decide +kernel), GW_mem (tm1 13 (by decide +kernel)) (by decide +kernel), GW_mem (tm8 14 (by decide +kernel)) (by decide +kernel), ⟨by decide +kernel, by decide +kernel⟩, by decide +kernel, by decide⟩
abbrev mX12_laysBack : MI := (yX12_laysBack, cX12_laysBack, 2, none)
theorem mvX12_laysBack : MV mX12_laysBack 12 0 := ⟨⟨_, _, rfl⟩, by decide, GW_mem (tm8 124 (by decide +kernel)) (by decide +kernel), GW_mem (tp7 (q := (yX12_laysBack, 45)) 13 (by decide +kernel)) (by decide +kernel), GW_mem (tm1 13 (by decide +kernel)) (by decide +kernel), GW_mem (tm8 125 (by decide +kernel)) (by decide +kernel), ⟨by decide +kernel, by decide +kernel⟩, by decide +kernel, by decide⟩
abbrev mX12_told : MI := (yX12_told, cX12_told, 2, (some .int))
theorem mvX12_told : MV mX12_told 12 1 := ⟨⟨_, _, rfl⟩, by decide, GW_mem (tm7 228 (by decide +kernel)) (by decide +kernel), GW_mem (tm7 229 (by decide +kernel)) (by decide +kernel), GW_mem (tm1 13 (by decide +kernel)) (by decide +kernel), GW_mem (tm7 230 (by decide +kernel)) (by decide +kernel), ⟨by decide +kernel, by decide +kernel⟩, by decide +kernel, by decide⟩
abbrev mX12_vane : MI := (yX12_vane, cX12_vane, 3, (some .int))
theorem mvX12_vane : MV mX12_vane 12 2 := ⟨⟨_, _, rfl⟩, by decide, GW_mem (tm7 232 (by decide +kernel)) (by decide +kernel), GW_mem (tm7 233 (by decide +kernel)) (by decide +kernel), GW_mem (tm1 13 (by decide +kernel)) (by decide +kernel), GW_mem (tm7 234 (by decide +kernel)) (by decide +kernel), ⟨by decide +kernel, by decide +kernel⟩, by decide +kernel, by decide⟩
abbrev mX12_shaft : MI := (yX12_shaft, cX12_shaft, 3, (some .int))
theorem mvX12_shaft : MV mX12_shaft 12 2 := ⟨⟨_, _, rfl⟩, by decide, GW_mem (tm8 0 (by decide +kernel)) (by decide +kernel), GW_mem (tm8 1 (by decide +kernel)) (by decide +kernel), GW_mem (tm1 13 (by decide +kernel)) (by decide +kernel), GW_mem (tm8 2 (by decide +kernel)) (by decide +kernel), ⟨by decide +kernel, by decide +kernel⟩, by decide +kernel, by decide⟩
abbrev mX12_isCalm : MI := (yX12_isCalm, cX12_isCalm, 2, (some .boolean))
theorem mvX12_isCalm : MV mX12_isCalm 12 1 := ⟨⟨_, _, rfl⟩, by decide, GW_mem (tm8 17 (by decide +kernel)) (by decide +kernel), GW_mem (tp6 (q := (yX12_isCalm, 45)) 10 (by decide +kernel)) (by decide +kernel), GW_mem (tm1 13 (by decide +kernel)) (by decide +kernel), GW_mem (tm8 18 (by decide +kernel)) (by decide +kernel), ⟨by decide +kernel, by decide +kernel⟩, by decide +kernel, by decide⟩
abbrev mX12_wantOf : MI := (yX12_wantOf, cX12_wantOf, 2, (some .int))
theorem mvX12_wantOf : MV mX12_wantOf 12 1 := ⟨⟨_, _, rfl⟩, by decide, GW_mem (tm8 25 (by decide +kernel)) (by decide +kernel), GW_mem (tp6 (q := (yX12_wantOf, 45)) 12 (by decide +kernel)) (by decide +kernel), GW_mem (tm1 13 (by decide +kernel)) (by decide +kernel), GW_mem (tm8 26 (by decide +kernel)) (by decide +kernel), ⟨by decide +kernel, by decide +kernel⟩, by decide +kernel, by decide⟩
abbrev mX12_isRight : MI := (yX12_isRight, cX12_isRight, 2, (some .boolean))
theorem mvX12_isRight : MV mX12_isRight 12 1 := ⟨⟨_, _, rfl⟩, by decide, GW_mem (tm8 33 (by decide +kernel)) (by decide +kernel), GW_mem (tp6 (q := (yX12_isRight, 45)) 13 (by decide +kernel)) (by decide +kernel), GW_mem (tm1 13 (by decide +kernel)) (by decide +kernel), GW_mem (tm8 34 (by decide +kernel)) (by decide +kernel), ⟨by decide +kernel, by decide +kernel⟩, by decide +kernel, by decide⟩
abbrev mX12_rightSet : MI := (yX12_rightSet, cX12_rightSet, 3, (some .int))
theorem mvX12_rightSet : MV mX12_rightSet 12 0 := ⟨⟨_, _, rfl⟩, by decide, GW_mem (tm8 188 (by decide +kernel)) (by decide +kernel), GW_mem (tp8 (q := (yX12_rightSet, 45)) 3 (by decide +kernel)) (by decide +kernel), GW_mem (tm1 13 (by decide +kernel)) (by decide +kernel), GW_mem (tm8 189 (by decide +kernel)) (by decide +kernel), ⟨by decide +kernel, by decide +kernel⟩, by decide +kernel, by decide⟩
abbrev mX12_wants : MI := (yX12_wants, cX12_wants, 2, (some .int))
theorem mvX12_wants : MV mX12_wants 12 1 := ⟨⟨_, _, rfl⟩, by decide, GW_mem (tm8 8 (by decide +kernel)) (by decide +kernel), GW_mem (tm8 9 (by decide +kernel)) (by decide +kernel), GW_mem (tm1 13 (by decide +kernel)) (by decide +kernel), GW_mem (tm8 10 (by decide +kernel)) (by decide +kernel), ⟨by decide +kernel, by decide +kernel⟩, by decide +kernel, by decide⟩
abbrev mX12_right : MI := (yX12_right, cX12_right, 2, (some .int))
theorem mvX12_right : MV mX12_right 12 1 := ⟨⟨_, _, rfl⟩, by decide, GW_mem (tm8 28 (by decide +kernel)) (by decide +kernel), GW_mem (tm8 29 (by decide +kernel)) (by decide +kernel), GW_mem (tm1 13 (by decide +kernel)) (by decide +kernel), GW_mem (tm8 30 (by decide +kernel)) (by decide +kernel), ⟨by decide +kernel, by decide +kernel⟩, by decide +kernel, by decide⟩
abbrev mX12_toRight : MI := (yX12_toRight, cX12_toRight, 4, (some .int))
theorem mvX12_toRight : MV mX12_toRight 12 2 := ⟨⟨_, _, rfl⟩, by decide, GW_mem (tm8 84 (by decide +kernel)) (by decide +kernel), GW_mem (tp7 (q := (yX12_toRight, 45)) 3 (by decide +kernel)) (by decide +kernel), GW_mem (tm1 13 (by decide +kernel)) (by decide +kernel), GW_mem (tm8 85 (by decide +kernel)) (by decide +kernel), ⟨by decide +kernel, by decide +kernel⟩, by decide +kernel, by decide⟩
abbrev mX12_farFrom : MI := (yX12_farFrom, cX12_farFrom, 5, (some .int))
theorem mvX12_farFrom : MV mX12_farFrom 12 2 := ⟨⟨_, _, rfl⟩, by decide, GW_mem (tm8 112 (by decide +kernel)) (by decide +kernel), GW_mem (tp7 (q := (yX12_farFrom, 45)) 10 (by decide +kernel)) (by decide +kernel), GW_mem (tm1 13 (by decide +kernel)) (by decide +kernel), GW_mem (tm8 113 (by decide +kernel)) (by decide +kernel), ⟨by decide +kernel, by decide +kernel⟩, by decide +kernel, by decide⟩
abbrev mX12_turned : MI := (yX12_turned, cX12_turned, 3, (some .int))
theorem mvX12_turned : MV mX12_turned 12 2 := ⟨⟨_, _, rfl⟩, by decide, GW_mem (tm8 116 (by decide +kernel)) (by decide +kernel), GW_mem (tp7 (q := (yX12_turned, 45)) 11 (by decide +kernel)) (by decide +kernel), GW_mem (tm1 13 (by decide +kernel)) (by decide +kernel), GW_mem (tm8 117 (by decide +kernel)) (by decide +kernel), ⟨by decide +kernel, by decide +kernel⟩, by decide +kernel, by decide⟩
abbrev mX12_playBehind : MI := (yX12_playBehind, cX12_playBehind, 3, (some .int))
theorem mvX12_playBehind : MV mX12_playBehind 12 1 := ⟨⟨_, _, rfl⟩, by decide, GW_mem (tm8 104 (by decide +kernel)) (by decide +kernel), GW_mem (tp7 (q := (yX12_playBehind, 45)) 8 (by decide +kernel)) (by decide +kernel), GW_mem (tm1 13 (by decide +kernel)) (by decide +kernel), GW_mem (tm8 105 (by decide +kernel)) (by decide +kernel), ⟨by decide +kernel, by decide +kernel⟩, by decide +kernel, by decide⟩
abbrev mX12_isOut : MI := (yX12_isOut, cX12_isOut, 2, (some .boolean))
theorem mvX12_isOut : MV mX12_isOut 12 1 := ⟨⟨_, _, rfl⟩, by decide, GW_mem (tm8 100 (by decide +kernel)) (by decide +kernel), GW_mem (tp7 (q := (yX12_isOut, 45)) 7 (by decide +kernel)) (by decide +kernel), GW_mem (tm1 13 (by decide +kernel)) (by decide +kernel), GW_mem (tm8 101 (by decide +kernel)) (by decide +kernel), ⟨by decide +kernel, by decide +kernel⟩, by decide +kernel, by decide⟩
abbrev mX12_isJoining : MI := (yX12_isJoining, cX12_isJoining, 2, (some .boolean))
theorem mvX12_isJoining : MV mX12_isJoining 12 1 := ⟨⟨_, _, rfl⟩, by decide, GW_mem (tm8 96 (by decide +kernel)) (by decide +kernel), GW_mem (tp7 (q := (yX12_isJoining, 45)) 6 (by decide +kernel)) (by decide +kernel), GW_mem (tm1 13 (by decide +kernel)) (by decide +kernel), GW_mem (tm8 97 (by decide +kernel)) (by decide +kernel), ⟨by decide +kernel, by decide +kernel⟩, by decide +kernel, by decide⟩
abbrev mX12_dragsBy : MI := (yX12_dragsBy, cX12_dragsBy, 7, (some .boolean))
theorem mvX12_dragsBy : MV mX12_dragsBy 12 2 := ⟨⟨_, _, rfl⟩, by decide, GW_mem (tm8 88 (by decide +kernel)) (by decide +kernel), GW_mem (tp7 (q := (yX12_dragsBy, 45)) 4 (by decide +kernel)) (by decide +kernel), GW_mem (tm1 13 (by decide +kernel)) (by decide +kernel), GW_mem (tm8 89 (by decide +kernel)) (by decide +kernel), ⟨by decide +kernel, by decide +kernel⟩, by decide +kernel, by decide⟩
abbrev mX12_turnedSet : MI := (yX12_turnedSet, cX12_turnedSet, 3, (some .int))
theorem mvX12_turnedSet : MV mX12_turnedSet 12 0 := ⟨⟨_, _, rfl⟩, by decide, GW_mem (tm8 141 (by decide +kernel)) (by decide +kernel), GW_mem (tp7 (q := (yX12_turnedSet, 45)) 15 (by decide +kernel)) (by decide +kernel), GW_mem (tm1 13 (by decide +kernel)) (by decide +kernel), GW_mem (tm8 142 (by decide +kernel)) (by decide +kernel), ⟨by decide +kernel, by decide +kernel⟩, by decide +kernel, by decide⟩
abbrev mX12_turnsAll : MI := (yX12_turnsAll, cX12_turnsAll, 3, none)
theorem mvX12_turnsAll : MV mX12_turnsAll 12 0 := ⟨⟨_, _, rfl⟩, by decide, GW_mem (tm8 120 (by decide +kernel)) (by decide +kernel), GW_mem (tp7 (q := (yX12_turnsAll, 45)) 12 (by decide +kernel)) (by decide +kernel), GW_mem (tm1 13 (by decide +kernel)) (by decide +kernel), GW_mem (tm8 121 (by decide +kernel)) (by decide +kernel), ⟨by decide +kernel, by decide +kernel⟩, by decide +kernel, by decide⟩
abbrev mX12_isStronger : MI := (yX12_isStronger, cX12_isStronger, 7, (some .boolean))
theorem mvX12_isStronger : MV mX12_isStronger 12 1 := ⟨⟨_, _, rfl⟩, by decide, GW_mem (tm8 108 (by decide +kernel)) (by decide +kernel), GW_mem (tp7 (q := (yX12_isStronger, 45)) 9 (by decide +kernel)) (by decide +kernel), GW_mem (tm1 13 (by decide +kernel)) (by decide +kernel), GW_mem (tm8 109 (by decide +kernel)) (by decide +kernel), ⟨by decide +kernel, by decide +kernel⟩, by decide +kernel, by decide⟩
abbrev mX12_shorter : MI := (yX12_shorter, cX12_shorter, 3, (some .int))
theorem mvX12_shorter : MV mX12_shorter 12 1 := ⟨⟨_, _, rfl⟩, by decide, GW_mem (tm8 80 (by decide +kernel)) (by decide +kernel), GW_mem (tp7 (q := (yX12_shorter, 45)) 2 (by decide +kernel)) (by decide +kernel), GW_mem (tm1 13 (by decide +kernel)) (by decide +kernel), GW_mem (tm8 81 (by decide +kernel)) (by decide +kernel), ⟨by decide +kernel, by decide +kernel⟩, by decide +kernel, by decide⟩
abbrev mX12_quarterGoes : MI := (yX12_quarterGoes, cX12_quarterGoes, 2, (some .boolean))
theorem mvX12_quarterGoes : MV mX12_quarterGoes 12 0 := ⟨⟨_, _, rfl⟩, by decide, GW_mem (tm8 76 (by decide +kernel)) (by decide +kernel), GW_mem (tp7 (q := (yX12_quarterGoes, 45)) 1 (by decide +kernel)) (by decide +kernel), GW_mem (tm1 13 (by decide +kernel)) (by decide +kernel), GW_mem (tm8 77 (by decide +kernel)) (by decide +kernel), ⟨by decide +kernel, by decide +kernel⟩, by decide +kernel, by decide⟩
abbrev mX12_begins1 : MI := (yX12_begins1, cX12_begins1, 1, none)
theorem mvX12_begins1 : MV mX12_begins1 12 0 := ⟨⟨_, _, rfl⟩, by decide, GW_mem (tm8 68 (by decide +kernel)) (by decide +kernel), GW_mem (tp6 (q := (yX12_begins1, 45)) 15 (by decide +kernel)) (by decide +kernel), GW_mem (tm1 13 (by decide +kernel)) (by decide +kernel), GW_mem (tm8 69 (by decide +kernel)) (by decide +kernel), ⟨by decide +kernel, by decide +kernel⟩, by decide +kernel, by decide⟩
abbrev mX12_goesBy : MI := (yX12_goesBy, cX12_goesBy, 3, none)
theorem mvX12_goesBy : MV mX12_goesBy 12 1 := ⟨⟨_, _, rfl⟩, by decide, GW_mem (tm8 72 (by decide +kernel)) (by decide +kernel), GW_mem (tp7 (q := (yX12_goesBy, 45)) 0 (by decide +kernel)) (by decide +kernel), GW_mem (tm1 13 (by decide +kernel)) (by decide +kernel), GW_mem (tm8 73 (by decide +kernel)) (by decide +kernel), ⟨by decide +kernel, by decide +kernel⟩, by decide +kernel, by decide⟩
abbrev mX12_isDirection : MI := (yX12_isDirection, cX12_isDirection, 1, (some .boolean))
theorem msX12_isDirection : MS mX12_isDirection 1 := ⟨GW_mem (tm8 44 (by decide +kernel)) (by decide +kernel), GW_mem (tm1 13 (by decide +kernel)) (by decide +kernel), GW_mem (tm8 45 (by decide +kernel)) (by decide +kernel), ⟨by decide +kernel, by decide +kernel⟩, by decide +kernel, by decide⟩
abbrev mX12_wind : MI := (yX12_wind, cX12_wind, 4, (some .boolean))
theorem mvX12_wind : MV mX12_wind 12 3 := ⟨⟨_, _, rfl⟩, by decide, GW_mem (tm8 36 (by decide +kernel)) (by decide +kernel), GW_mem (tm8 37 (by decide +kernel)) (by decide +kernel), GW_mem (tm1 13 (by decide +kernel)) (by decide +kernel), GW_mem (tm8 38 (by decide +kernel)) (by decide +kernel), ⟨by decide +kernel, by decide +kernel⟩, by decide +kernel, by decide⟩
abbrev mX12_windAt : MI := (yX12_windAt, cX12_windAt, 3, (some .int))
theorem mvX12_windAt : MV mX12_windAt 12 2 := ⟨⟨_, _, rfl⟩, by decide, GW_mem (tm8 51 (by decide +kernel)) (by decide +kernel), GW_mem (tm8 52 (by decide +kernel)) (by decide +kernel), GW_mem (tm1 13 (by decide +kernel)) (by decide +kernel), GW_mem (tm8 53 (by decide +kernel)) (by decide +kernel), ⟨by decide +kernel, by decide +kernel⟩, by decide +kernel, by decide⟩
abbrev mX12_lift : MI := (yX12_lift, cX12_lift, 3, (some .boolean))
theorem mvX12_lift : MV mX12_lift 12 2 := ⟨⟨_, _, rfl⟩, by decide, GW_mem (tm8 55 (by decide +kernel)) (by decide +kernel), GW_mem (tm8 56 (by decide +kernel)) (by decide +kernel), GW_mem (tm1 13 (by decide +kernel)) (by decide +kernel), GW_mem (tm8 57 (by decide +kernel)) (by decide +kernel), ⟨by decide +kernel, by decide +kernel⟩, by decide +kernel, by decide⟩
abbrev mX12_hold : MI := (yX12_hold, cX12_hold, 3, (some .boolean))
theorem mvX12_hold : MV mX12_hold 12 2 := ⟨⟨_, _, rfl⟩, by decide, GW_mem (tm8 59 (by decide +kernel)) (by decide +kernel), GW_mem (tm8 60 (by decide +kernel)) (by decide +kernel), GW_mem (tm1 13 (by decide +kernel)) (by decide +kernel), GW_mem (tm8 61 (by decide +kernel)) (by decide +kernel), ⟨by decide +kernel, by decide +kernel⟩, by decide +kernel, by decide⟩
abbrev mX12_pass : MI := (yX12_pass, cX12_pass, 2, (some .int))
theorem mvX12_pass : MV mX12_pass 12 1 := ⟨⟨_, _, rfl⟩, by decide, GW_mem (tm8 63 (by decide +kernel)) (by decide +kernel), GW_mem (tm8 64 (by decide +kernel)) (by decide +kernel), GW_mem (tm1 13 (by decide +kernel)) (by decide +kernel), GW_mem (tm8 65 (by decide +kernel)) (by decide +kernel), ⟨by decide +kernel, by decide +kernel⟩, by decide +kernel, by decide⟩
abbrev mX12_turnsBy : MI := (yX12_turnsBy, cX12_turnsBy, 5, (some .int))
theorem mvX12_turnsBy : MV mX12_turnsBy 12 2 := ⟨⟨_, _, rfl⟩, by decide, GW_mem (tm8 133 (by decide +kernel)) (by decide +kernel), GW_mem (tp7 (q := (yX12_turnsBy, 45)) 14 (by decide +kernel)) (by decide +kernel), GW_mem (tm1 13 (by decide +kernel)) (by decide +kernel), GW_mem (tm8 134 (by decide +kernel)) (by decide +kernel), ⟨by decide +kernel, by decide +kernel⟩, by decide +kernel, by decide⟩
abbrev mX12_turn : MI := (yX12_turn, cX12_turn, 4, (some .int))
theorem mvX12_turn : MV mX12_turn 12 2 := ⟨⟨_, _, rfl⟩, by decide, GW_mem (tm8 127 (by decide +kernel)) (by decide +kernel), GW_mem (tm8 128 (by decide +kernel)) (by decide +kernel), GW_mem (tm1 13 (by decide +kernel)) (by decide +kernel), GW_mem (tm8 129 (by decide +kernel)) (by decide +kernel), ⟨by decide +kernel, by decide +kernel⟩, by decide +kernel, by decide⟩
abbrev mX12_drags : MI := (yX12_drags, cX12_drags, 3, (some .int))
theorem mvX12_drags : MV mX12_drags 12 2 := ⟨⟨_, _, rfl⟩, by decide, GW_mem (tm8 136 (by decide +kernel)) (by decide +kernel), GW_mem (tm8 137 (by decide +kernel)) (by decide +kernel), GW_mem (tm1 13 (by decide +kernel)) (by decide +kernel), GW_mem (tm8 138 (by decide +kernel)) (by decide +kernel), ⟨by decide +kernel, by decide +kernel⟩, by decide +kernel, by decide⟩
abbrev mX12_otherOf : MI := (yX12_otherOf, cX12_otherOf, 5, (some .int))
theorem mvX12_otherOf : MV mX12_otherOf 12 2 := ⟨⟨_, _, rfl⟩, by decide, GW_mem (tm8 153 (by decide +kernel)) (by decide +kernel), GW_mem (tp8 (q := (yX12_otherOf, 45)) 1 (by decide +kernel)) (by decide +kernel), GW_mem (tm1 13 (by decide +kernel)) (by decide +kernel), GW_mem (tm8 154 (by decide +kernel)) (by decide +kernel), ⟨by decide +kernel, by decide +kernel⟩, by decide +kernel, by decide⟩
abbrev mX12_joinedWith : MI := (yX12_joinedWith, cX12_joinedWith, 6, (some .int))
theorem mvX12_joinedWith : MV mX12_joinedWith 12 1 := ⟨⟨_, _, rfl⟩, by decide, GW_mem (tm8 149 (by decide +kernel)) (by decide +kernel), GW_mem (tp8 (q := (yX12_joinedWith, 45)) 0 (by decide +kernel)) (by decide +kernel), GW_mem (tm1 13 (by decide +kernel)) (by decide +kernel), GW_mem (tm8 150 (by decide +kernel)) (by decide +kernel), ⟨by decide +kernel, by decide +kernel⟩, by decide +kernel, by decide⟩
abbrev mX12_joined : MI := (yX12_joined, cX12_joined, 2, (some .int))
theorem mvX12_joined : MV mX12_joined 12 1 := ⟨⟨_, _, rfl⟩, by decide, GW_mem (tm8 144 (by decide +kernel)) (by decide +kernel), GW_mem (tm8 145 (by decide +kernel)) (by decide +kernel), GW_mem (tm1 13 (by decide +kernel)) (by decide +kernel), GW_mem (tm8 146 (by decide +kernel)) (by decide +kernel), ⟨by decide +kernel, by decide +kernel⟩, by decide +kernel, by decide⟩
abbrev mX12_ratio : MI := (yX12_ratio, cX12_ratio, 3, (some .boolean))
theorem mvX12_ratio : MV mX12_ratio 12 2 := ⟨⟨_, _, rfl⟩, by decide, GW_mem (tm8 156 (by decide +kernel)) (by decide +kernel), GW_mem (tm8 157 (by decide +kernel)) (by decide +kernel), GW_mem (tm1 13 (by decide +kernel)) (by decide +kernel), GW_mem (tm8 158 (by decide +kernel)) (by decide +kernel), ⟨by decide +kernel, by decide +kernel⟩, by decide +kernel, by decide⟩
abbrev mX12_locked : MI := (yX12_locked, cX12_locked, 8, (some .int))
theorem mvX12_locked : MV mX12_locked 12 0 := ⟨⟨_, _, rfl⟩, by decide, GW_mem (tm8 164 (by decide +kernel)) (by decide +kernel), GW_mem (tm8 165 (by decide +kernel)) (by decide +kernel), GW_mem (tm1 13 (by decide +kernel)) (by decide +kernel), GW_mem (tm8 166 (by decide +kernel)) (by decide +kernel), ⟨by decide +kernel, by decide +kernel⟩, by decide +kernel, by decide⟩
abbrev mX12_common : MI := (yX12_common, cX12_common, 11, (some .long))
theorem mvX12_common : MV mX12_common 12 1 := ⟨⟨_, _, rfl⟩, by decide, GW_mem (tm8 168 (by decide +kernel)) (by decide +kernel), GW_mem (tm8 169 (by decide +kernel)) (by decide +kernel), GW_mem (tm1 13 (by decide +kernel)) (by decide +kernel), GW_mem (tm8 170 (by decide +kernel)) (by decide +kernel), ⟨by decide +kernel, by decide +kernel⟩, by decide +kernel, by decide⟩
abbrev mX12_sway : MI := (yX12_sway, cX12_sway, 8, (some .int))
theorem mvX12_sway : MV mX12_sway 12 2 := ⟨⟨_, _, rfl⟩, by decide, GW_mem (tm8 172 (by decide +kernel)) (by decide +kernel), GW_mem (tm8 173 (by decide +kernel)) (by decide +kernel), GW_mem (tm1 13 (by decide +kernel)) (by decide +kernel), GW_mem (tm8 174 (by decide +kernel)) (by decide +kernel), ⟨by decide +kernel, by decide +kernel⟩, by decide +kernel, by decide⟩
abbrev mX12_points : MI := (yX12_points, cX12_points, 3, (some .int))
theorem mvX12_points : MV mX12_points 12 2 := ⟨⟨_, _, rfl⟩, by decide, GW_mem (tm8 176 (by decide +kernel)) (by decide +kernel), GW_mem (tm8 177 (by decide +kernel)) (by decide +kernel), GW_mem (tm1 13 (by decide +kernel)) (by decide +kernel), GW_mem (tm8 178 (by decide +kernel)) (by decide +kernel), ⟨by decide +kernel, by decide +kernel⟩, by decide +kernel, by decide⟩
abbrev mX12_rights : MI := (yX12_rights, cX12_rights, 2, (some .int))
theorem mvX12_rights : MV mX12_rights 12 1 := ⟨⟨_, _, rfl⟩, by decide, GW_mem (tm8 183 (by decide +kernel)) (by decide +kernel), GW_mem (tm8 184 (by decide +kernel)) (by decide +kernel), GW_mem (tm1 13 (by decide +kernel)) (by decide +kernel), GW_mem (tm8 185 (by decide +kernel)) (by decide +kernel), ⟨by decide +kernel, by decide +kernel⟩, by decide +kernel, by decide⟩
abbrev mX12_isAgain : MI := (yX12_isAgain, cX12_isAgain, 4, (some .boolean))
theorem mvX12_isAgain : MV mX12_isAgain 12 2 := ⟨⟨_, _, rfl⟩, by decide, GW_mem (tm8 196 (by decide +kernel)) (by decide +kernel), GW_mem (tp8 (q := (yX12_isAgain, 45)) 4 (by decide +kernel)) (by decide +kernel), GW_mem (tm1 13 (by decide +kernel)) (by decide +kernel), GW_mem (tm8 197 (by decide +kernel)) (by decide +kernel), ⟨by decide +kernel, by decide +kernel⟩, by decide +kernel, by decide⟩
abbrev mX12_again : MI := (yX12_again, cX12_again, 4, (some .int))
theorem mvX12_again : MV mX12_again 12 1 := ⟨⟨_, _, rfl⟩, by decide, GW_mem (tm8 191 (by decide +kernel)) (by decide +kernel), GW_mem (tm8 192 (by decide +kernel)) (by decide +kernel), GW_mem (tm1 13 (by decide +kernel)) (by decide +kernel), GW_mem (tm8 193 (by decide +kernel)) (by decide +kernel), ⟨by decide +kernel, by decide +kernel⟩, by decide +kernel, by decide⟩
abbrev mX12_strikes : MI := (yX12_strikes, cX12_strikes, 4, (some .int))
theorem mvX12_strikes : MV mX12_strikes 12 2 := ⟨⟨_, _, rfl⟩, by decide, GW_mem (tm8 199 (by decide +kernel)) (by decide +kernel), GW_mem (tm8 200 (by decide +kernel)) (by decide +kernel), GW_mem (tm1 13 (by decide +kernel)) (by decide +kernel), GW_mem (tm8 201 (by decide +kernel)) (by decide +kernel), ⟨by decide +kernel, by decide +kernel⟩, by decide +kernel, by decide⟩
abbrev mX12_bell : MI := (yX12_bell, cX12_bell, 3, (some .int))
theorem mvX12_bell : MV mX12_bell 12 2 := ⟨⟨_, _, rfl⟩, by decide, GW_mem (tm8 206 (by decide +kernel)) (by decide +kernel), GW_mem (tm8 207 (by decide +kernel)) (by decide +kernel), GW_mem (tm1 13 (by decide +kernel)) (by decide +kernel), GW_mem (tm8 208 (by decide +kernel)) (by decide +kernel), ⟨by decide +kernel, by decide +kernel⟩, by decide +kernel, by decide⟩
abbrev mX12_wrongOf : MI := (yX12_wrongOf, cX12_wrongOf, 7, (some .int))
theorem mvX12_wrongOf : MV mX12_wrongOf 12 2 := ⟨⟨_, _, rfl⟩, by decide, GW_mem (tm8 215 (by decide +kernel)) (by decide +kernel), GW_mem (tp8 (q := (yX12_wrongOf, 45)) 5 (by decide +kernel)) (by decide +kernel), GW_mem (tm1 13 (by decide +kernel)) (by decide +kernel), GW_mem (tm8 216 (by decide +kernel)) (by decide +kernel), ⟨by decide +kernel, by decide +kernel⟩, by decide +kernel, by decide⟩
abbrev mX12_wrong : MI := (yX12_wrong, cX12_wrong, 3, (some .int))
theorem mvX12_wrong : MV mX12_wrong 12 2 := ⟨⟨_, _, rfl⟩, by decide, GW_mem (tm8 210 (by decide +kernel)) (by decide +kernel), GW_mem (tm8 211 (by decide +kernel)) (by decide +kernel), GW_mem (tm1 13 (by decide +kernel)) (by decide +kernel), GW_mem (tm8 212 (by decide +kernel)) (by decide +kernel), ⟨by decide +kernel, by decide +kernel⟩, by decide +kernel, by decide⟩
abbrev mX12_holding : MI := (yX12_holding, cX12_holding, 5, (some .int))
theorem mvX12_holding : MV mX12_holding 12 2 := ⟨⟨_, _, rfl⟩, by decide, GW_mem (tm8 218 (by decide +kernel)) (by decide +kernel), GW_mem (tm8 219 (by decide +kernel)) (by decide +kernel), GW_mem (tm1 13 (by decide +kernel)) (by decide +kernel), GW_mem (tm8 220 (by decide +kernel)) (by decide +kernel), ⟨by decide +kernel, by decide +kernel⟩, by decide +kernel, by decide⟩
abbrev mX12_helpers : MI := (yX12_helpers, cX12_helpers, 4, (some .int))
theorem mvX12_helpers : MV mX12_helpers 12 1 := ⟨⟨_, _, rfl⟩, by decide, GW_mem (tm8 222 (by decide +kernel)) (by decide +kernel), GW_mem (tm8 223 (by decide +kernel)) (by decide +kernel), GW_mem (tm1 13 (by decide +kernel)) (by decide +kernel), GW_mem (tm8 224 (by decide +kernel)) (by decide +kernel), ⟨by decide +kernel, by decide +kernel⟩, by decide +kernel, by decide⟩
abbrev mX12_firstToTurn : MI := (yX12_firstToTurn, cX12_firstToTurn, 1, (some .int))
theorem mvX12_firstToTurn : MV mX12_firstToTurn 12 0 := ⟨⟨_, _, rfl⟩, by decide, GW_mem (tm8 226 (by decide +kernel)) (by decide +kernel), GW_mem (tm8 227 (by decide +kernel)) (by decide +kernel), GW_mem (tm1 13 (by decide +kernel)) (by decide +kernel), GW_mem (tm8 228 (by decide +kernel)) (by decide +kernel), ⟨by decide +kernel, by decide +kernel⟩, by decide +kernel, by decide⟩
abbrev mX12_heaviest : MI := (yX12_heaviest, cX12_heaviest, 5, (some .int))
theorem mvX12_heaviest : MV mX12_heaviest 12 0 := ⟨⟨_, _, rfl⟩, by decide, GW_mem (tm8 234 (by decide +kernel)) (by decide +kernel), GW_mem (tm8 235 (by decide +kernel)) (by decide +kernel), GW_mem (tm1 13 (by decide +kernel)) (by decide +kernel), GW_mem (tm8 236 (by decide +kernel)) (by decide +kernel), ⟨by decide +kernel, by decide +kernel⟩, by decide +kernel, by decide⟩
abbrev mX12_farthest : MI := (yX12_farthest, cX12_farthest, 5, (some .int))
theorem mvX12_farthest : MV mX12_farthest 12 0 := ⟨⟨_, _, rfl⟩, by decide, GW_mem (tm9 1 (by decide +kernel)) (by decide +kernel), GW_mem (tm9 2 (by decide +kernel)) (by decide +kernel), GW_mem (tm1 13 (by decide +kernel)) (by decide +kernel), GW_mem (tm9 3 (by decide +kernel)) (by decide +kernel), ⟨by decide +kernel, by decide +kernel⟩, by decide +kernel, by decide⟩
abbrev mX12_calmed : MI := (yX12_calmed, cX12_calmed, 2, (some .int))
theorem mvX12_calmed : MV mX12_calmed 12 0 := ⟨⟨_, _, rfl⟩, by decide, GW_mem (tm9 5 (by decide +kernel)) (by decide +kernel), GW_mem (tm9 6 (by decide +kernel)) (by decide +kernel), GW_mem (tm1 13 (by decide +kernel)) (by decide +kernel), GW_mem (tm9 7 (by decide +kernel)) (by decide +kernel), ⟨by decide +kernel, by decide +kernel⟩, by decide +kernel, by decide⟩
abbrev mX12_teeth : MI := (yX12_teeth, cX12_teeth, 2, (some .int))
theorem mvX12_teeth : MV mX12_teeth 12 1 := ⟨⟨_, _, rfl⟩, by decide, GW_mem (tm9 9 (by decide +kernel)) (by decide +kernel), GW_mem (tm9 10 (by decide +kernel)) (by decide +kernel), GW_mem (tm1 13 (by decide +kernel)) (by decide +kernel), GW_mem (tm9 11 (by decide +kernel)) (by decide +kernel), ⟨by decide +kernel, by decide +kernel⟩, by decide +kernel, by decide⟩
abbrev mX12_blowsAll : MI := (yX12_blowsAll, cX12_blowsAll, 4, none)
theorem mvX12_blowsAll : MV mX12_blowsAll 12 2 := ⟨⟨_, _, rfl⟩, by decide, GW_mem (tm9 18 (by decide +kernel)) (by decide +kernel), GW_mem (tp8 (q := (yX12_blowsAll, 45)) 7 (by decide +kernel)) (by decide +kernel), GW_mem (tm1 13 (by decide +kernel)) (by decide +kernel), GW_mem (tm9 19 (by decide +kernel)) (by decide +kernel), ⟨by decide +kernel, by decide +kernel⟩, by decide +kernel, by decide⟩
abbrev mX12_bestWind : MI := (yX12_bestWind, cX12_bestWind, 6, (some .int))
theorem mvX12_bestWind : MV mX12_bestWind 12 2 := ⟨⟨_, _, rfl⟩, by decide, GW_mem (tm9 13 (by decide +kernel)) (by decide +kernel), GW_mem (tm9 14 (by decide +kernel)) (by decide +kernel), GW_mem (tm1 13 (by decide +kernel)) (by decide +kernel), GW_mem (tm9 15 (by decide +kernel)) (by decide +kernel), ⟨by decide +kernel, by decide +kernel⟩, by decide +kernel, by decide⟩
abbrev mX12_parting : MI := (yX12_parting, cX12_parting, 4, (some .int))
theorem mvX12_parting : MV mX12_parting 12 0 := ⟨⟨_, _, rfl⟩, by decide, GW_mem (tm9 25 (by decide +kernel)) (by decide +kernel), GW_mem (tm9 26 (by decide +kernel)) (by decide +kernel), GW_mem (tm1 13 (by decide +kernel)) (by decide +kernel), GW_mem (tm9 27 (by decide +kernel)) (by decide +kernel), ⟨by decide +kernel, by decide +kernel⟩, by decide +kernel, by decide⟩
abbrev mX12_rightsBy : MI := (yX12_rightsBy, cX12_rightsBy, 3, (some .int))
theorem mvX12_rightsBy : MV mX12_rightsBy 12 2 := ⟨⟨_, _, rfl⟩, by decide, GW_mem (tm9 34 (by decide +kernel)) (by decide +kernel), GW_mem (tp8 (q := (yX12_rightsBy, 45)) 9 (by decide +kernel)) (by decide +kernel), GW_mem (tm1 13 (by decide +kernel)) (by decide +kernel), GW_mem (tm9 35 (by decide +kernel)) (by decide +kernel), ⟨by decide +kernel, by decide +kernel⟩, by decide +kernel, by decide⟩
abbrev mX12_mending : MI := (yX12_mending, cX12_mending, 6, (some .int))
theorem mvX12_mending : MV mX12_mending 12 1 := ⟨⟨_, _, rfl⟩, by decide, GW_mem (tm9 29 (by decide +kernel)) (by decide +kernel), GW_mem (tm9 30 (by decide +kernel)) (by decide +kernel), GW_mem (tm1 13 (by decide +kernel)) (by decide +kernel), GW_mem (tm9 31 (by decide +kernel)) (by decide +kernel), ⟨by decide +kernel, by decide +kernel⟩, by decide +kernel, by decide⟩
abbrev mX12_leavingBy : MI := (yX12_leavingBy, cX12_leavingBy, 5, (some .int))
theorem mvX12_leavingBy : MV mX12_leavingBy 12 2 := ⟨⟨_, _, rfl⟩, by decide, GW_mem (tm9 42 (by decide +kernel)) (by decide +kernel), GW_mem (tp8 (q := (yX12_leavingBy, 45)) 10 (by decide +kernel)) (by decide +kernel), GW_mem (tm1 13 (by decide +kernel)) (by decide +kernel), GW_mem (tm9 43 (by decide +kernel)) (by decide +kernel), ⟨by decide +kernel, by decide +kernel⟩, by decide +kernel, by decide⟩
abbrev mX12_bits : MI := (yX12_bits, cX12_bits, 3, (some .int))
theorem msX12_bits : MS mX12_bits 1 := ⟨GW_mem (tm8 238 (by decide +kernel)) (by decide +kernel), GW_mem (tm1 13 (by decide +kernel)) (by decide +kernel), GW_mem (tm8 239 (by decide +kernel)) (by decide +kernel), ⟨by decide +kernel, by decide +kernel⟩, by decide +kernel, by decide⟩
abbrev mX12_leaving : MI := (yX12_leaving, cX12_leaving, 2, (some .int))
theorem mvX12_leaving : MV mX12_leaving 12 1 := ⟨⟨_, _, rfl⟩, by decide, GW_mem (tm9 37 (by decide +kernel)) (by decide +kernel), GW_mem (tm9 38 (by decide +kernel)) (by decide +kernel), GW_mem (tm1 13 (by decide +kernel)) (by decide +kernel), GW_mem (tm9 39 (by decide +kernel)) (by decide +kernel), ⟨by decide +kernel, by decide +kernel⟩, by decide +kernel, by decide⟩
abbrev mX12_knowing : MI := (yX12_knowing, cX12_knowing, 6, (some .int))
theorem mvX12_knowing : MV mX12_knowing 12 1 := ⟨⟨_, _, rfl⟩, by decide, GW_mem (tm9 45 (by decide +kernel)) (by decide +kernel), GW_mem (tm9 46 (by decide +kernel)) (by decide +kernel), GW_mem (tm1 13 (by decide +kernel)) (by decide +kernel), GW_mem (tm9 47 (by decide +kernel)) (by decide +kernel), ⟨by decide +kernel, by decide +kernel⟩, by decide +kernel, by decide⟩
abbrev mX12_wrongRows : MI := (yX12_wrongRows, cX12_wrongRows, 4, (some .int))
theorem mvX12_wrongRows : MV mX12_wrongRows 12 2 := ⟨⟨_, _, rfl⟩, by decide, GW_mem (tm9 54 (by decide +kernel)) (by decide +kernel), GW_mem (tp8 (q := (yX12_wrongRows, 45)) 11 (by decide +kernel)) (by decide +kernel), GW_mem (tm1 13 (by decide +kernel)) (by decide +kernel), GW_mem (tm9 55 (by decide +kernel)) (by decide +kernel), ⟨by decide +kernel, by decide +kernel⟩, by decide +kernel, by decide⟩
abbrev mX12_isSeen : MI := (yX12_isSeen, cX12_isSeen, 6, (some .boolean))
theorem mvX12_isSeen : MV mX12_isSeen 12 3 := ⟨⟨_, _, rfl⟩, by decide, GW_mem (tm9 59 (by decide +kernel)) (by decide +kernel), GW_mem (tp8 (q := (yX12_isSeen, 45)) 12 (by decide +kernel)) (by decide +kernel), GW_mem (tm1 13 (by decide +kernel)) (by decide +kernel), GW_mem (tm9 60 (by decide +kernel)) (by decide +kernel), ⟨by decide +kernel, by decide +kernel⟩, by decide +kernel, by decide⟩
abbrev mX12_whole : MI := (yX12_whole, cX12_whole, 4, (some .int))
theorem mvX12_whole : MV mX12_whole 12 2 := ⟨⟨_, _, rfl⟩, by decide, GW_mem (tm9 49 (by decide +kernel)) (by decide +kernel), GW_mem (tm9 50 (by decide +kernel)) (by decide +kernel), GW_mem (tm1 13 (by decide +kernel)) (by decide +kernel), GW_mem (tm9 51 (by decide +kernel)) (by decide +kernel), ⟨by decide +kernel, by decide +kernel⟩, by decide +kernel, by decide⟩
abbrev mX12_broken : MI := (yX12_broken, cX12_broken, 6, (some .int))
theorem mvX12_broken : MV mX12_broken 12 2 := ⟨⟨_, _, rfl⟩, by decide, GW_mem (tm9 62 (by decide +kernel)) (by decide +kernel), GW_mem (tm9 63 (by decide +kernel)) (by decide +kernel), GW_mem (tm1 13 (by decide +kernel)) (by decide +kernel), GW_mem (tm9 64 (by decide +kernel)) (by decide +kernel), ⟨by decide +kernel, by decide +kernel⟩, by decide +kernel, by decide⟩
abbrev mX12_draw : MI := (yX12_draw, cX12_draw, 1, (some .int))
theorem mvX12_draw : MV mX12_draw 12 0 := ⟨⟨_, _, rfl⟩, by decide, GW_mem (tm9 80 (by decide +kernel)) (by decide +kernel), GW_mem (tp8 (q := (yX12_draw, 45)) 15 (by decide +kernel)) (by decide +kernel), GW_mem (tm1 13 (by decide +kernel)) (by decide +kernel), GW_mem (tm9 81 (by decide +kernel)) (by decide +kernel), ⟨by decide +kernel, by decide +kernel⟩, by decide +kernel, by decide⟩
abbrev mX12_blows : MI := (yX12_blows, cX12_blows, 4, none)
theorem mvX12_blows : MV mX12_blows 12 3 := ⟨⟨_, _, rfl⟩, by decide, GW_mem (tm9 22 (by decide +kernel)) (by decide +kernel), GW_mem (tp8 (q := (yX12_blows, 45)) 8 (by decide +kernel)) (by decide +kernel), GW_mem (tm1 13 (by decide +kernel)) (by decide +kernel), GW_mem (tm9 23 (by decide +kernel)) (by decide +kernel), ⟨by decide +kernel, by decide +kernel⟩, by decide +kernel, by decide⟩
abbrev mX12_does : MI := (yX12_does, cX12_does, 4, none)
theorem mvX12_does : MV mX12_does 12 1 := ⟨⟨_, _, rfl⟩, by decide, GW_mem (tm9 76 (by decide +kernel)) (by decide +kernel), GW_mem (tp8 (q := (yX12_does, 45)) 14 (by decide +kernel)) (by decide +kernel), GW_mem (tm1 13 (by decide +kernel)) (by decide +kernel), GW_mem (tm9 77 (by decide +kernel)) (by decide +kernel), ⟨by decide +kernel, by decide +kernel⟩, by decide +kernel, by decide⟩
abbrev mX12_holdsNow : MI := (yX12_holdsNow, cX12_holdsNow, 4, (some .boolean))
theorem mvX12_holdsNow : MV mX12_holdsNow 12 1 := ⟨⟨_, _, rfl⟩, by decide, GW_mem (tm9 85 (by decide +kernel)) (by decide +kernel), GW_mem (tp9 (q := (yX12_holdsNow, 45)) 0 (by decide +kernel)) (by decide +kernel), GW_mem (tm1 13 (by decide +kernel)) (by decide +kernel), GW_mem (tm9 86 (by decide +kernel)) (by decide +kernel), ⟨by decide +kernel, by decide +kernel⟩, by decide +kernel, by decide⟩
abbrev mX12_behindEnds : MI := (yX12_behindEnds, cX12_behindEnds, 5, (some .int))
theorem mvX12_behindEnds : MV mX12_behindEnds 12 1 := ⟨⟨_, _, rfl⟩, by decide, GW_mem (tm9 89 (by decide +kernel)) (by decide +kernel), GW_mem (tp9 (q := (yX12_behindEnds, 45)) 1 (by decide +kernel)) (by decide +kernel), GW_mem (tm1 13 (by decide +kernel)) (by decide +kernel), GW_mem (tm9 90 (by decide +kernel)) (by decide +kernel), ⟨by decide +kernel, by decide +kernel⟩, by decide +kernel, by decide⟩
abbrev mX12_runs : MI := (yX12_runs, cX12_runs, 4, none)
theorem mvX12_runs : MV mX12_runs 12 1 := ⟨⟨_, _, rfl⟩, by decide, GW_mem (tm9 72 (by decide +kernel)) (by decide +kernel), GW_mem (tp8 (q := (yX12_runs, 45)) 13 (by decide +kernel)) (by decide +kernel), GW_mem (tm1 13 (by decide +kernel)) (by decide +kernel), GW_mem (tm9 73 (by decide +kernel)) (by decide +kernel), ⟨by decide +kernel, by decide +kernel⟩, by decide +kernel, by decide⟩
abbrev mX12_run : MI := (yX12_run, cX12_run, 3, (some .int))
theorem mvX12_run : MV mX12_run 12 1 := ⟨⟨_, _, rfl⟩, by decide, GW_mem (tm9 66 (by decide +kernel)) (by decide +kernel), GW_mem (tm9 67 (by decide +kernel)) (by decide +kernel), GW_mem (tm1 13 (by decide +kernel)) (by decide +kernel), GW_mem (tm9 68 (by decide +kernel)) (by decide +kernel), ⟨by decide +kernel, by decide +kernel⟩, by decide +kernel, by decide⟩
abbrev mX12_ran : MI := (yX12_ran, cX12_ran, 2, (some .int))
theorem mvX12_ran : MV mX12_ran 12 1 := ⟨⟨_, _, rfl⟩, by decide, GW_mem (tm9 92 (by decide +kernel)) (by decide +kernel), GW_mem (tm9 93 (by decide +kernel)) (by decide +kernel), GW_mem (tm1 13 (by decide +kernel)) (by decide +kernel), GW_mem (tm9 94 (by decide +kernel)) (by decide +kernel), ⟨by decide +kernel, by decide +kernel⟩, by decide +kernel, by decide⟩
abbrev mX12_ranTo : MI := (yX12_ranTo, cX12_ranTo, 2, (some .int))
theorem mvX12_ranTo : MV mX12_ranTo 12 1 := ⟨⟨_, _, rfl⟩, by decide, GW_mem (tm9 96 (by decide +kernel)) (by decide +kernel), GW_mem (tm9 97 (by decide +kernel)) (by decide +kernel), GW_mem (tm1 13 (by decide +kernel)) (by decide +kernel), GW_mem (tm9 98 (by decide +kernel)) (by decide +kernel), ⟨by decide +kernel, by decide +kernel⟩, by decide +kernel, by decide⟩
abbrev mX12_odds : MI := (yX12_odds, cX12_odds, 6, (some .boolean))
theorem mvX12_odds : MV mX12_odds 12 3 := ⟨⟨_, _, rfl⟩, by decide, GW_mem (tm9 100 (by decide +kernel)) (by decide +kernel), GW_mem (tm9 101 (by decide +kernel)) (by decide +kernel), GW_mem (tm1 13 (by decide +kernel)) (by decide +kernel), GW_mem (tm9 102 (by decide +kernel)) (by decide +kernel), ⟨by decide +kernel, by decide +kernel⟩, by decide +kernel, by decide⟩
abbrev mX12_copies : MI := (yX12_copies, cX12_copies, 4, none)
theorem mvX12_copies : MV mX12_copies 12 2 := ⟨⟨_, _, rfl⟩, by decide, GW_mem (tm9 110 (by decide +kernel)) (by decide +kernel), GW_mem (tp9 (q := (yX12_copies, 45)) 2 (by decide +kernel)) (by decide +kernel), GW_mem (tm1 13 (by decide +kernel)) (by decide +kernel), GW_mem (tm9 111 (by decide +kernel)) (by decide +kernel), ⟨by decide +kernel, by decide +kernel⟩, by decide +kernel, by decide⟩
abbrev mX12_mark : MI := (yX12_mark, cX12_mark, 1, (some .int))
theorem mvX12_mark : MV mX12_mark 12 0 := ⟨⟨_, _, rfl⟩, by decide, GW_mem (tm9 105 (by decide +kernel)) (by decide +kernel), GW_mem (tm9 106 (by decide +kernel)) (by decide +kernel), GW_mem (tm1 13 (by decide +kernel)) (by decide +kernel), GW_mem (tm9 107 (by decide +kernel)) (by decide +kernel), ⟨by decide +kernel, by decide +kernel⟩, by decide +kernel, by decide⟩
abbrev mX12_back : MI := (yX12_back, cX12_back, 1, (some .int))
theorem mvX12_back : MV mX12_back 12 0 := ⟨⟨_, _, rfl⟩, by decide, GW_mem (tm9 113 (by decide +kernel)) (by decide +kernel), GW_mem (tm9 114 (by decide +kernel)) (by decide +kernel), GW_mem (tm1 13 (by decide +kernel)) (by decide +kernel), GW_mem (tm9 115 (by decide +kernel)) (by decide +kernel), ⟨by decide +kernel, by decide +kernel⟩, by decide +kernel, by decide⟩
abbrev mJ6_bitCount_0f7a4 : MI := (yJ6_bitCount_0f7a4, cJ6_bitCount_0f7a4, 1, (some .int))
theorem msJ6_bitCount_0f7a4 : MS mJ6_bitCount_0f7a4 1 := ⟨GW_mem (tm5 145 (by decide +kernel)) (by decide +kernel), GW_mem (tm1 20 (by decide +kernel)) (by decide +kernel), GW_mem (tm5 146 (by decide +kernel)) (by decide +kernel), ⟨by decide +kernel, by decide +kernel⟩, by decide +kernel, by decide⟩
abbrev mJ9_abs_0f7a4 : MI := (yJ9_abs_0f7a4, cJ9_abs_0f7a4, 1, (some .int))
theorem msJ9_abs_0f7a4 : MS mJ9_abs_0f7a4 1 := ⟨GW_mem (tm5 14 (by decide +kernel)) (by decide +kernel), GW_mem (tm1 15 (by decide +kernel)) (by decide +kernel), GW_mem (tm5 15 (by decide +kernel)) (by decide +kernel), ⟨by decide +kernel, by decide +kernel⟩, by decide +kernel, by decide⟩
abbrev mJ9_abs_067f4 : MI := (yJ9_abs_067f4, cJ9_abs_067f4, 2, (some .long))
theorem msJ9_abs_067f4 : MS mJ9_abs_067f4 1 := ⟨GW_mem (tm5 49 (by decide +kernel)) (by decide +kernel), GW_mem (tm1 15 (by decide +kernel)) (by decide +kernel), GW_mem (tm5 50 (by decide +kernel)) (by decide +kernel), ⟨by decide +kernel, by decide +kernel⟩, by decide +kernel, by decide⟩
abbrev mJ9_max_7cf53 : MI := (yJ9_max_7cf53, cJ9_max_7cf53, 2, (some .int))
theorem msJ9_max_7cf53 : MS mJ9_max_7cf53 2 := ⟨GW_mem (tm5 184 (by decide +kernel)) (by decide +kernel), GW_mem (tm1 15 (by decide +kernel)) (by decide +kernel), GW_mem (tm5 185 (by decide +kernel)) (by decide +kernel), ⟨by decide +kernel, by decide +kernel⟩, by decide +kernel, by decide⟩
abbrev mJ9_min_7cf53 : MI := (yJ9_min_7cf53, cJ9_min_7cf53, 2, (some .int))
theorem msJ9_min_7cf53 : MS mJ9_min_7cf53 2 := ⟨GW_mem (tm3 151 (by decide +kernel)) (by decide +kernel), GW_mem (tm1 15 (by decide +kernel)) (by decide +kernel), GW_mem (tm3 152 (by decide +kernel)) (by decide +kernel), ⟨by decide +kernel, by decide +kernel⟩, by decide +kernel, by decide⟩
abbrev mJ0_length_8abf5 : MI := (yJ0_length_8abf5, cJ0_length_8abf5, 1, (some .int))
theorem mtJ0_length_8abf5 : MT mJ0_length_8abf5 0 := ⟨rfl, GW_mem (tm7 100 (by decide +kernel)) (by decide +kernel), GW_mem (tm7 101 (by decide +kernel)) (by decide +kernel), GW_mem (tm1 16 (by decide +kernel)) (by decide +kernel), GW_mem (tm7 102 (by decide +kernel)) (by decide +kernel), ⟨by decide +kernel, by decide +kernel⟩, by decide +kernel, by decide⟩
abbrev mJ0_charAt_5068e : MI := (yJ0_charAt_5068e, cJ0_charAt_5068e, 2, (some .char))
theorem mtJ0_charAt_5068e : MT mJ0_charAt_5068e 1 := ⟨rfl, GW_mem (tm7 110 (by decide +kernel)) (by decide +kernel), GW_mem (tm7 111 (by decide +kernel)) (by decide +kernel), GW_mem (tm1 16 (by decide +kernel)) (by decide +kernel), GW_mem (tm7 112 (by decide +kernel)) (by decide +kernel), ⟨by decide +kernel, by decide +kernel⟩, by decide +kernel, by decide⟩
abbrev mJ0_coder_7d493 : MI := (yJ0_coder_7d493, cJ0_coder_7d493, 1, (some .byte))
theorem mtJ0_coder_7d493 : MT mJ0_coder_7d493 0 := ⟨rfl, GW_mem (tm7 104 (by decide +kernel)) (by decide +kernel), GW_mem (tm7 105 (by decide +kernel)) (by decide +kernel), GW_mem (tm1 16 (by decide +kernel)) (by decide +kernel), GW_mem (tm7 106 (by decide +kernel)) (by decide +kernel), ⟨by decide +kernel, by decide +kernel⟩, by decide +kernel, by decide⟩
abbrev mJ0_isLatin1_aae02 : MI := (yJ0_isLatin1_aae02, cJ0_isLatin1_aae02, 1, (some .boolean))
theorem mtJ0_isLatin1_aae02 : MT mJ0_isLatin1_aae02 0 := ⟨rfl, GW_mem (tm7 114 (by decide +kernel)) (by decide +kernel), GW_mem (tm7 115 (by decide +kernel)) (by decide +kernel), GW_mem (tm1 16 (by decide +kernel)) (by decide +kernel), GW_mem (tm7 116 (by decide +kernel)) (by decide +kernel), ⟨by decide +kernel, by decide +kernel⟩, by decide +kernel, by decide⟩
abbrev mJ0_checkIndex_df160 : MI := (yJ0_checkIndex_df160, cJ0_checkIndex_df160, 2, none)
theorem msJ0_checkIndex_df160 : MS mJ0_checkIndex_df160 2 := ⟨GW_mem (tm7 121 (by decide +kernel)) (by decide +kernel), GW_mem (tm1 16 (by decide +kernel)) (by decide +kernel), GW_mem (tm7 122 (by decide +kernel)) (by decide +kernel), ⟨by decide +kernel, by decide +kernel⟩, by decide +kernel, by decide⟩
abbrev mJ1_charAt_3b067 : MI := (yJ1_charAt_3b067, cJ1_charAt_3b067, 2, (some .char))
theorem msJ1_charAt_3b067 : MS mJ1_charAt_3b067 2 := ⟨GW_mem (tm7 118 (by decide +kernel)) (by decide +kernel), GW_mem (tm1 17 (by decide +kernel)) (by decide +kernel), GW_mem (tm7 119 (by decide +kernel)) (by decide +kernel), ⟨by decide +kernel, by decide +kernel⟩, by decide +kernel, by decide⟩
abbrev mJ2_getChar_3b067 : MI := (yJ2_getChar_3b067, cJ2_getChar_3b067, 2, (some .char))
theorem msJ2_getChar_3b067 : MS mJ2_getChar_3b067 2 := ⟨GW_mem (tm7 139 (by decide +kernel)) (by decide +kernel), GW_mem (tm1 19 (by decide +kernel)) (by decide +kernel), GW_mem (tm7 140 (by decide +kernel)) (by decide +kernel), ⟨by decide +kernel, by decide +kernel⟩, by decide +kernel, by decide⟩
abbrev mJ2_length_9d52b : MI := (yJ2_length_9d52b, cJ2_length_9d52b, 1, (some .int))
theorem msJ2_length_9d52b : MS mJ2_length_9d52b 1 := ⟨GW_mem (tm7 135 (by decide +kernel)) (by decide +kernel), GW_mem (tm1 19 (by decide +kernel)) (by decide +kernel), GW_mem (tm7 136 (by decide +kernel)) (by decide +kernel), ⟨by decide +kernel, by decide +kernel⟩, by decide +kernel, by decide⟩
abbrev mJ2_charAt_3b067 : MI := (yJ2_charAt_3b067, cJ2_charAt_3b067, 2, (some .char))
theorem msJ2_charAt_3b067 : MS mJ2_charAt_3b067 2 := ⟨GW_mem (tm7 129 (by decide +kernel)) (by decide +kernel), GW_mem (tm1 19 (by decide +kernel)) (by decide +kernel), GW_mem (tm7 130 (by decide +kernel)) (by decide +kernel), ⟨by decide +kernel, by decide +kernel⟩, by decide +kernel, by decide⟩
abbrev mJ2_checkIndex_2214a : MI := (yJ2_checkIndex_2214a, cJ2_checkIndex_2214a, 2, none)
theorem msJ2_checkIndex_2214a : MS mJ2_checkIndex_2214a 2 := ⟨GW_mem (tm7 132 (by decide +kernel)) (by decide +kernel), GW_mem (tm1 19 (by decide +kernel)) (by decide +kernel), GW_mem (tm7 133 (by decide +kernel)) (by decide +kernel), ⟨by decide +kernel, by decide +kernel⟩, by decide +kernel, by decide⟩
abbrev mJ3_checkIndex_8e157 : MI := (yJ3_checkIndex_8e157, cJ3_checkIndex_8e157, 3, (some .int))
theorem msJ3_checkIndex_8e157 : MS mJ3_checkIndex_8e157 3 := ⟨GW_mem (tm7 126 (by decide +kernel)) (by decide +kernel), GW_mem (tm1 18 (by decide +kernel)) (by decide +kernel), GW_mem (tm7 127 (by decide +kernel)) (by decide +kernel), ⟨by decide +kernel, by decide +kernel⟩, by decide +kernel, by decide⟩
theorem mlX11_107 : Cond.methodLink RX11 107 yX11_isTray ∈ GW := GW_mem (tm3 79 (by decide +kernel)) (by decide +kernel)
theorem mlX11_111 : Cond.methodLink RX11 111 yX11_refuse ∈ GW := GW_mem (tm3 83 (by decide +kernel)) (by decide +kernel)
theorem mlX11_114 : Cond.methodLink RX11 114 yX8_lay ∈ GW := GW_mem (tm3 87 (by decide +kernel)) (by decide +kernel)
theorem mlX11_118 : Cond.methodLink RX11 118 yX11_agree ∈ GW := GW_mem (tm3 91 (by decide +kernel)) (by decide +kernel)
theorem mlX11_122 : Cond.methodLink RX11 122 yX11_trayPlaceStatus ∈ GW := GW_mem (tm3 99 (by decide +kernel)) (by decide +kernel)
theorem mlX11_126 : Cond.methodLink RX11 126 yX8_put ∈ GW := GW_mem (tm3 107 (by decide +kernel)) (by decide +kernel)
theorem mlX11_130 : Cond.methodLink RX11 130 yX11_none ∈ GW := GW_mem (tm3 115 (by decide +kernel)) (by decide +kernel)
theorem mlX11_138 : Cond.methodLink RX11 138 yX8_isMissing ∈ GW := GW_mem (tm3 103 (by decide +kernel)) (by decide +kernel)
theorem mlX11_144 : Cond.methodLink RX11 144 yX8_hasFrom ∈ GW := GW_mem (tm3 123 (by decide +kernel)) (by decide +kernel)
theorem mcX11_148 : MC RX11 148 := ⟨GW_mem (tm3 127 (by decide +kernel)) (by decide +kernel), GW_mem (tm3 129 (by decide +kernel)) (by decide +kernel), GW_mem (tm3 128 (by decide +kernel)) (by decide +kernel), GW_mem (tm1 14 (by decide +kernel)) (by decide +kernel)⟩
theorem mlX11_154 : Cond.methodLink RX11 154 yX6_hasRoomFor ∈ GW := GW_mem (tm3 134 (by decide +kernel)) (by decide +kernel)
theorem mlX11_157 : Cond.methodLink RX11 157 yX6_append ∈ GW := GW_mem (tm3 138 (by decide +kernel)) (by decide +kernel)
theorem mlX11_164 : Cond.methodLink RX11 164 yX6_open ∈ GW := GW_mem (tm3 146 (by decide +kernel)) (by decide +kernel)
theorem mlX11_167 : Cond.methodLink RX11 167 yX9_readAll ∈ GW := GW_mem (tm3 170 (by decide +kernel)) (by decide +kernel)
theorem mlX11_171 : Cond.methodLink RX11 171 yX11_closeText ∈ GW := GW_mem (tm4 25 (by decide +kernel)) (by decide +kernel)
theorem mlX11_180 : Cond.methodLink RX11 180 yX4_begin ∈ GW := GW_mem (tm4 29 (by decide +kernel)) (by decide +kernel)
theorem mlX11_187 : Cond.methodLink RX11 187 yX5_clear ∈ GW := GW_mem (tm4 37 (by decide +kernel)) (by decide +kernel)
theorem mlX11_193 : Cond.methodLink RX11 193 yX11_answer ∈ GW := GW_mem (tm4 41 (by decide +kernel)) (by decide +kernel)
theorem mlX11_196 : Cond.methodLink RX11 196 yX1_readAll ∈ GW := GW_mem (tm4 49 (by decide +kernel)) (by decide +kernel)
theorem mlX11_217 : Cond.methodLink RX11 217 yX11_isVane ∈ GW := GW_mem (tm4 118 (by decide +kernel)) (by decide +kernel)
theorem mlX11_239 : Cond.methodLink RX11 239 yX11_isShaft ∈ GW := GW_mem (tm4 126 (by decide +kernel)) (by decide +kernel)
theorem mlX11_257 : Cond.methodLink RX11 257 yX11_workOnNow ∈ GW := GW_mem (tm4 134 (by decide +kernel)) (by decide +kernel)
theorem mlX11_263 : Cond.methodLink RX11 263 yX10_isRight ∈ GW := GW_mem (tm4 154 (by decide +kernel)) (by decide +kernel)
theorem mlX11_266 : Cond.methodLink RX11 266 yX11_isPlace ∈ GW := GW_mem (tm4 162 (by decide +kernel)) (by decide +kernel)
theorem mlX11_275 : Cond.methodLink RX11 275 yX11_with ∈ GW := GW_mem (tm4 174 (by decide +kernel)) (by decide +kernel)
theorem mlX11_279 : Cond.methodLink RX11 279 yX10_goOn ∈ GW := GW_mem (tm4 185 (by decide +kernel)) (by decide +kernel)
theorem mlX11_282 : Cond.methodLink RX11 282 yX10_turnByHand ∈ GW := GW_mem (tm5 9 (by decide +kernel)) (by decide +kernel)
theorem mlX11_285 : Cond.methodLink RX11 285 yX10_engage ∈ GW := GW_mem (tm5 20 (by decide +kernel)) (by decide +kernel)
theorem mlX11_291 : Cond.methodLink RX11 291 yX0_search ∈ GW := GW_mem (tm5 25 (by decide +kernel)) (by decide +kernel)
theorem mlX11_298 : Cond.methodLink RX11 298 yX11_has ∈ GW := GW_mem (tm5 43 (by decide +kernel)) (by decide +kernel)
theorem mlX11_304 : Cond.methodLink RX11 304 yX11_tellFraction ∈ GW := GW_mem (tm5 44 (by decide +kernel)) (by decide +kernel)
theorem mlX11_308 : Cond.methodLink RX11 308 yX0_lockedVanes ∈ GW := GW_mem (tm5 58 (by decide +kernel)) (by decide +kernel)
theorem mlX11_312 : Cond.methodLink RX11 312 yX11_leastMultiple ∈ GW := GW_mem (tm5 71 (by decide +kernel)) (by decide +kernel)
theorem mlX11_316 : Cond.methodLink RX11 316 yX0_leastSlack ∈ GW := GW_mem (tm5 78 (by decide +kernel)) (by decide +kernel)
theorem mlX11_320 : Cond.methodLink RX11 320 yX11_isAhead ∈ GW := GW_mem (tm5 91 (by decide +kernel)) (by decide +kernel)
theorem mlX11_323 : Cond.methodLink RX11 323 yX11_look ∈ GW := GW_mem (tm5 95 (by decide +kernel)) (by decide +kernel)
theorem mlX11_326 : Cond.methodLink RX11 326 yX10_rightSet ∈ GW := GW_mem (tm5 108 (by decide +kernel)) (by decide +kernel)
theorem mlX11_330 : Cond.methodLink RX11 330 yX11_quartersToCalm ∈ GW := GW_mem (tm5 117 (by decide +kernel)) (by decide +kernel)
theorem mlX11_333 : Cond.methodLink RX11 333 yX11_isSpan ∈ GW := GW_mem (tm5 125 (by decide +kernel)) (by decide +kernel)
theorem mlX11_336 : Cond.methodLink RX11 336 yX10_listenFor ∈ GW := GW_mem (tm5 133 (by decide +kernel)) (by decide +kernel)
theorem mlX11_342 : Cond.methodLink RX11 342 yX10_wrongQuarters ∈ GW := GW_mem (tm5 138 (by decide +kernel)) (by decide +kernel)
theorem mlX11_345 : Cond.methodLink RX11 345 yX11_allVanes ∈ GW := GW_mem (tm5 154 (by decide +kernel)) (by decide +kernel)
theorem mlX11_348 : Cond.methodLink RX11 348 yX10_shorterWay ∈ GW := GW_mem (tm5 162 (by decide +kernel)) (by decide +kernel)
theorem mlX11_351 : Cond.methodLink RX11 351 yX10_comingNearer ∈ GW := GW_mem (tm5 163 (by decide +kernel)) (by decide +kernel)
theorem mlX11_354 : Cond.methodLink RX11 354 yX10_firstDriven ∈ GW := GW_mem (tm5 171 (by decide +kernel)) (by decide +kernel)
theorem mlX11_357 : Cond.methodLink RX11 357 yX10_loadOf ∈ GW := GW_mem (tm5 179 (by decide +kernel)) (by decide +kernel)
theorem mlX11_360 : Cond.methodLink RX11 360 yJ9_max_7cf53 ∈ GW := GW_mem (tm5 183 (by decide +kernel)) (by decide +kernel)
theorem mlX11_365 : Cond.methodLink RX11 365 yX10_gapNow ∈ GW := GW_mem (tm5 190 (by decide +kernel)) (by decide +kernel)
theorem mlX11_371 : Cond.methodLink RX11 371 yX11_isBlowing ∈ GW := GW_mem (tm5 206 (by decide +kernel)) (by decide +kernel)
theorem mlX11_374 : Cond.methodLink RX11 374 yX10_blowEverywhere ∈ GW := GW_mem (tm5 210 (by decide +kernel)) (by decide +kernel)
theorem mlX11_377 : Cond.methodLink RX11 377 yX11_rightsBehind ∈ GW := GW_mem (tm5 215 (by decide +kernel)) (by decide +kernel)
theorem mlX11_380 : Cond.methodLink RX11 380 yX0_partingShafts ∈ GW := GW_mem (tm5 224 (by decide +kernel)) (by decide +kernel)
theorem mlX11_383 : Cond.methodLink RX11 383 yX11_leavingWinds ∈ GW := GW_mem (tm5 236 (by decide +kernel)) (by decide +kernel)
theorem mlX11_386 : Cond.methodLink RX11 386 yJ6_bitCount_0f7a4 ∈ GW := GW_mem (tm5 219 (by decide +kernel)) (by decide +kernel)
theorem mlX11_391 : Cond.methodLink RX11 391 yX11_seenStatus ∈ GW := GW_mem (tm6 8 (by decide +kernel)) (by decide +kernel)
theorem mlX11_394 : Cond.methodLink RX11 394 yX11_comesAsSeen ∈ GW := GW_mem (tm6 16 (by decide +kernel)) (by decide +kernel)
theorem mlX11_402 : Cond.methodLink RX11 402 yX3_carryOut ∈ GW := GW_mem (tm6 28 (by decide +kernel)) (by decide +kernel)
theorem mlX11_406 : Cond.methodLink RX11 406 yX3_report ∈ GW := GW_mem (tm6 64 (by decide +kernel)) (by decide +kernel)
theorem mlX11_428 : Cond.methodLink RX11 428 yX7_copyFrom ∈ GW := GW_mem (tm6 86 (by decide +kernel)) (by decide +kernel)
theorem mlX11_432 : Cond.methodLink RX11 432 yJ9_abs_067f4 ∈ GW := GW_mem (tm5 48 (by decide +kernel)) (by decide +kernel)
theorem mlX11_436 : Cond.methodLink RX11 436 yX11_greatestDivisor ∈ GW := GW_mem (tm5 51 (by decide +kernel)) (by decide +kernel)
theorem mlX11_444 : Cond.methodLink RX11 444 yX11_holdsTeeth ∈ GW := GW_mem (tm6 12 (by decide +kernel)) (by decide +kernel)
theorem mlX11_447 : Cond.methodLink RX11 447 yX10_use ∈ GW := GW_mem (tm4 138 (by decide +kernel)) (by decide +kernel)
theorem mlX11_451 : Cond.methodLink RX11 451 yX4_copyFrom ∈ GW := GW_mem (tm5 99 (by decide +kernel)) (by decide +kernel)
theorem mlX0_35 : Cond.methodLink RX0 35 yX0_find ∈ GW := GW_mem (tm5 29 (by decide +kernel)) (by decide +kernel)
theorem mlX0_39 : Cond.methodLink RX0 39 yX0_findFrom ∈ GW := GW_mem (tm5 35 (by decide +kernel)) (by decide +kernel)
theorem mlX0_68 : Cond.methodLink RX0 68 yX0_search ∈ GW := GW_mem (tm5 62 (by decide +kernel)) (by decide +kernel)
theorem mlX0_72 : Cond.methodLink RX0 72 yX0_turnsBothWays ∈ GW := GW_mem (tm5 63 (by decide +kernel)) (by decide +kernel)
theorem mlX0_76 : Cond.methodLink RX0 76 yX0_spreadSlack ∈ GW := GW_mem (tm5 82 (by decide +kernel)) (by decide +kernel)
theorem mlX0_82 : Cond.methodLink RX0 82 yJ9_min_7cf53 ∈ GW := GW_mem (tm5 86 (by decide +kernel)) (by decide +kernel)
theorem mlX1_27 : Cond.methodLink RX1 27 yX5_clear ∈ GW := GW_mem (tm4 53 (by decide +kernel)) (by decide +kernel)
theorem mlX1_41 : Cond.methodLink RX1 41 yX1_readRow ∈ GW := GW_mem (tm4 54 (by decide +kernel)) (by decide +kernel)
theorem mlX1_45 : Cond.methodLink RX1 45 yX6_refuseToken ∈ GW := GW_mem (tm4 68 (by decide +kernel)) (by decide +kernel)
theorem mlX1_55 : Cond.methodLink RX1 55 yX1_readEnd ∈ GW := GW_mem (tm4 58 (by decide +kernel)) (by decide +kernel)
theorem mlX1_58 : Cond.methodLink RX1 58 yX1_isStep ∈ GW := GW_mem (tm4 69 (by decide +kernel)) (by decide +kernel)
theorem mlX1_65 : Cond.methodLink RX1 65 yX6_refuse ∈ GW := GW_mem (tm4 72 (by decide +kernel)) (by decide +kernel)
theorem mlX1_71 : Cond.methodLink RX1 71 yX6_advance ∈ GW := GW_mem (tm4 62 (by decide +kernel)) (by decide +kernel)
theorem mlX1_74 : Cond.methodLink RX1 74 yX1_readTest ∈ GW := GW_mem (tm4 73 (by decide +kernel)) (by decide +kernel)
theorem mlX1_77 : Cond.methodLink RX1 77 yX1_readNumbers ∈ GW := GW_mem (tm4 96 (by decide +kernel)) (by decide +kernel)
theorem mlX1_81 : Cond.methodLink RX1 81 yX6_takeSemicolon ∈ GW := GW_mem (tm4 63 (by decide +kernel)) (by decide +kernel)
theorem mlX1_84 : Cond.methodLink RX1 84 yX1_addRow ∈ GW := GW_mem (tm4 64 (by decide +kernel)) (by decide +kernel)
theorem mlX1_93 : Cond.methodLink RX1 93 yX6_takePlace ∈ GW := GW_mem (tm4 100 (by decide +kernel)) (by decide +kernel)
theorem mlX1_97 : Cond.methodLink RX1 97 yX1_keepWhat ∈ GW := GW_mem (tm4 78 (by decide +kernel)) (by decide +kernel)
theorem mlX1_100 : Cond.methodLink RX1 100 yX6_takeNumber ∈ GW := GW_mem (tm4 91 (by decide +kernel)) (by decide +kernel)
theorem mlX1_103 : Cond.methodLink RX1 103 yX1_keepHow ∈ GW := GW_mem (tm4 87 (by decide +kernel)) (by decide +kernel)
theorem mlX1_106 : Cond.methodLink RX1 106 yX1_keepMuch ∈ GW := GW_mem (tm4 92 (by decide +kernel)) (by decide +kernel)
theorem mlX1_109 : Cond.methodLink RX1 109 yX6_takeShaft ∈ GW := GW_mem (tm4 101 (by decide +kernel)) (by decide +kernel)
theorem mlX1_112 : Cond.methodLink RX1 112 yX6_takeVane ∈ GW := GW_mem (tm4 77 (by decide +kernel)) (by decide +kernel)
theorem mlX1_118 : Cond.methodLink RX1 118 yX6_takeKeyword ∈ GW := GW_mem (tm4 82 (by decide +kernel)) (by decide +kernel)
theorem mlX1_121 : Cond.methodLink RX1 121 yX6_takeCompare ∈ GW := GW_mem (tm4 83 (by decide +kernel)) (by decide +kernel)
theorem mlX2_56 : Cond.methodLink RX2 56 yX2_indexIn ∈ GW := GW_mem (tm3 211 (by decide +kernel)) (by decide +kernel)
theorem mlX2_60 : Cond.methodLink RX2 60 yX2_placeNamed ∈ GW := GW_mem (tm3 207 (by decide +kernel)) (by decide +kernel)
theorem mlX2_64 : Cond.methodLink RX2 64 yX2_vaneNamed ∈ GW := GW_mem (tm3 214 (by decide +kernel)) (by decide +kernel)
theorem mlX2_67 : Cond.methodLink RX2 67 yX2_shaftNamed ∈ GW := GW_mem (tm3 218 (by decide +kernel)) (by decide +kernel)
theorem mcX2_70 : MC RX2 70 := ⟨GW_mem (tm6 94 (by decide +kernel)) (by decide +kernel), GW_mem (tm3 129 (by decide +kernel)) (by decide +kernel), GW_mem (tm3 128 (by decide +kernel)) (by decide +kernel), GW_mem (tm1 14 (by decide +kernel)) (by decide +kernel)⟩
theorem mlX3_33 : Cond.methodLink RX3 33 yX4_copyFrom ∈ GW := GW_mem (tm6 32 (by decide +kernel)) (by decide +kernel)
theorem mlX3_53 : Cond.methodLink RX3 53 yX10_use ∈ GW := GW_mem (tm6 33 (by decide +kernel)) (by decide +kernel)
theorem mlX3_82 : Cond.methodLink RX3 82 yX3_rowBehindEnd ∈ GW := GW_mem (tm6 35 (by decide +kernel)) (by decide +kernel)
theorem mlX3_86 : Cond.methodLink RX3 86 yX3_perform ∈ GW := GW_mem (tm6 39 (by decide +kernel)) (by decide +kernel)
theorem mlX3_90 : Cond.methodLink RX3 90 yX3_rowBehindStep ∈ GW := GW_mem (tm6 55 (by decide +kernel)) (by decide +kernel)
theorem mlX3_102 : Cond.methodLink RX3 102 yX10_rightSet ∈ GW := GW_mem (tm6 68 (by decide +kernel)) (by decide +kernel)
theorem mcX3_117 : MC RX3 117 := ⟨GW_mem (tm6 69 (by decide +kernel)) (by decide +kernel), GW_mem (tm3 129 (by decide +kernel)) (by decide +kernel), GW_mem (tm3 128 (by decide +kernel)) (by decide +kernel), GW_mem (tm1 14 (by decide +kernel)) (by decide +kernel)⟩
theorem mlX3_126 : Cond.methodLink RX3 126 yX3_isSo ∈ GW := GW_mem (tm6 59 (by decide +kernel)) (by decide +kernel)
theorem mlX3_139 : Cond.methodLink RX3 139 yX10_isRight ∈ GW := GW_mem (tm6 63 (by decide +kernel)) (by decide +kernel)
theorem mlX3_142 : Cond.methodLink RX3 142 yX10_blow ∈ GW := GW_mem (tm6 43 (by decide +kernel)) (by decide +kernel)
theorem mlX3_146 : Cond.methodLink RX3 146 yX3_drawWinds ∈ GW := GW_mem (tm6 47 (by decide +kernel)) (by decide +kernel)
theorem mlX3_149 : Cond.methodLink RX3 149 yX10_goOn ∈ GW := GW_mem (tm6 52 (by decide +kernel)) (by decide +kernel)
theorem mlX3_162 : Cond.methodLink RX3 162 yX10_turnByHand ∈ GW := GW_mem (tm6 54 (by decide +kernel)) (by decide +kernel)
theorem mlX4_30 : Cond.methodLink RX4 30 yX4_blowEverywhere ∈ GW := GW_mem (tm4 33 (by decide +kernel)) (by decide +kernel)
theorem mcX4_52 : MC RX4 52 := ⟨GW_mem (tm5 103 (by decide +kernel)) (by decide +kernel), GW_mem (tm3 129 (by decide +kernel)) (by decide +kernel), GW_mem (tm3 128 (by decide +kernel)) (by decide +kernel), GW_mem (tm1 14 (by decide +kernel)) (by decide +kernel)⟩
theorem mcX5_36 : MC RX5 36 := ⟨GW_mem (tm6 100 (by decide +kernel)) (by decide +kernel), GW_mem (tm3 129 (by decide +kernel)) (by decide +kernel), GW_mem (tm3 128 (by decide +kernel)) (by decide +kernel), GW_mem (tm1 14 (by decide +kernel)) (by decide +kernel)⟩
theorem mlX6_19 : Cond.methodLink RX6 19 yJ9_min_7cf53 ∈ GW := GW_mem (tm3 150 (by decide +kernel)) (by decide +kernel)
theorem mlX6_37 : Cond.methodLink RX6 37 yX6_advance ∈ GW := GW_mem (tm3 153 (by decide +kernel)) (by decide +kernel)
theorem mlX6_49 : Cond.methodLink RX6 49 yX6_scanWord ∈ GW := GW_mem (tm3 157 (by decide +kernel)) (by decide +kernel)
theorem mlX6_52 : Cond.methodLink RX6 52 yX6_scanNumber ∈ GW := GW_mem (tm3 163 (by decide +kernel)) (by decide +kernel)
theorem mlX6_58 : Cond.methodLink RX6 58 yX6_isSign ∈ GW := GW_mem (tm3 167 (by decide +kernel)) (by decide +kernel)
theorem mlX6_73 : Cond.methodLink RX6 73 yX6_refuse ∈ GW := GW_mem (tm3 199 (by decide +kernel)) (by decide +kernel)
theorem mlX6_76 : Cond.methodLink RX6 76 yX6_refuseToken ∈ GW := GW_mem (tm3 195 (by decide +kernel)) (by decide +kernel)
theorem mlX6_83 : Cond.methodLink RX6 83 yX6_takeNumber ∈ GW := GW_mem (tm4 12 (by decide +kernel)) (by decide +kernel)
theorem mlX6_87 : Cond.methodLink RX6 87 yX6_seesName ∈ GW := GW_mem (tm3 191 (by decide +kernel)) (by decide +kernel)
theorem mlX6_90 : Cond.methodLink RX6 90 yX2_isTaken ∈ GW := GW_mem (tm3 203 (by decide +kernel)) (by decide +kernel)
theorem mlX6_96 : Cond.methodLink RX6 96 yX2_placeNamed ∈ GW := GW_mem (tm4 3 (by decide +kernel)) (by decide +kernel)
theorem mlX6_100 : Cond.methodLink RX6 100 yX6_takeThing ∈ GW := GW_mem (tm4 4 (by decide +kernel)) (by decide +kernel)
theorem mlX6_103 : Cond.methodLink RX6 103 yX2_vaneNamed ∈ GW := GW_mem (tm4 21 (by decide +kernel)) (by decide +kernel)
theorem mlX6_106 : Cond.methodLink RX6 106 yX2_shaftNamed ∈ GW := GW_mem (tm4 105 (by decide +kernel)) (by decide +kernel)
theorem mlX7_30 : Cond.methodLink RX7 30 yX2_copyFrom ∈ GW := GW_mem (tm6 90 (by decide +kernel)) (by decide +kernel)
theorem mlX7_34 : Cond.methodLink RX7 34 yX4_copyFrom ∈ GW := GW_mem (tm6 95 (by decide +kernel)) (by decide +kernel)
theorem mlX7_37 : Cond.methodLink RX7 37 yX5_copyFrom ∈ GW := GW_mem (tm6 96 (by decide +kernel)) (by decide +kernel)
theorem mlX9_19 : Cond.methodLink RX9 19 yX2_clear ∈ GW := GW_mem (tm3 174 (by decide +kernel)) (by decide +kernel)
theorem mlX9_30 : Cond.methodLink RX9 30 yX9_readPart ∈ GW := GW_mem (tm3 178 (by decide +kernel)) (by decide +kernel)
theorem mlX9_40 : Cond.methodLink RX9 40 yX9_readPlace ∈ GW := GW_mem (tm3 182 (by decide +kernel)) (by decide +kernel)
theorem mlX9_43 : Cond.methodLink RX9 43 yX6_refuse ∈ GW := GW_mem (tm3 226 (by decide +kernel)) (by decide +kernel)
theorem mlX9_50 : Cond.methodLink RX9 50 yX9_readVane ∈ GW := GW_mem (tm3 227 (by decide +kernel)) (by decide +kernel)
theorem mlX9_56 : Cond.methodLink RX9 56 yX9_readShaft ∈ GW := GW_mem (tm4 13 (by decide +kernel)) (by decide +kernel)
theorem mlX9_59 : Cond.methodLink RX9 59 yX6_refuseToken ∈ GW := GW_mem (tm4 24 (by decide +kernel)) (by decide +kernel)
theorem mlX9_62 : Cond.methodLink RX9 62 yX6_advance ∈ GW := GW_mem (tm3 186 (by decide +kernel)) (by decide +kernel)
theorem mlX9_69 : Cond.methodLink RX9 69 yX6_takeNewName ∈ GW := GW_mem (tm3 187 (by decide +kernel)) (by decide +kernel)
theorem mlX9_73 : Cond.methodLink RX9 73 yX6_takeSemicolon ∈ GW := GW_mem (tm3 222 (by decide +kernel)) (by decide +kernel)
theorem mlX9_83 : Cond.methodLink RX9 83 yX6_takeKeyword ∈ GW := GW_mem (tm3 231 (by decide +kernel)) (by decide +kernel)
theorem mlX9_86 : Cond.methodLink RX9 86 yX6_takeNumber ∈ GW := GW_mem (tm3 235 (by decide +kernel)) (by decide +kernel)
theorem mlX9_97 : Cond.methodLink RX9 97 yX6_takePlace ∈ GW := GW_mem (tm3 239 (by decide +kernel)) (by decide +kernel)
theorem mlX9_103 : Cond.methodLink RX9 103 yX6_takeOption ∈ GW := GW_mem (tm4 8 (by decide +kernel)) (by decide +kernel)
theorem mlX9_118 : Cond.methodLink RX9 118 yX6_takeVane ∈ GW := GW_mem (tm4 17 (by decide +kernel)) (by decide +kernel)
theorem mlX9_124 : Cond.methodLink RX9 124 yX6_seesName ∈ GW := GW_mem (tm4 22 (by decide +kernel)) (by decide +kernel)
theorem mlX9_127 : Cond.methodLink RX9 127 yX2_vaneNamed ∈ GW := GW_mem (tm4 23 (by decide +kernel)) (by decide +kernel)
theorem mlX10_33 : Cond.methodLink RX10 33 yX10_listenFor ∈ GW := GW_mem (tm4 142 (by decide +kernel)) (by decide +kernel)
theorem mlX10_37 : Cond.methodLink RX10 37 yX10_aim ∈ GW := GW_mem (tm4 146 (by decide +kernel)) (by decide +kernel)
theorem mlX10_54 : Cond.methodLink RX10 54 yX4_blowEverywhere ∈ GW := GW_mem (tm5 214 (by decide +kernel)) (by decide +kernel)
theorem mlX10_72 : Cond.methodLink RX10 72 yX10_isRight ∈ GW := GW_mem (tm4 196 (by decide +kernel)) (by decide +kernel)
theorem mlX10_80 : Cond.methodLink RX10 80 yX10_gap ∈ GW := GW_mem (tm4 229 (by decide +kernel)) (by decide +kernel)
theorem mlX10_87 : Cond.methodLink RX10 87 yX10_draggingShaft ∈ GW := GW_mem (tm4 205 (by decide +kernel)) (by decide +kernel)
theorem mlX10_103 : Cond.methodLink RX10 103 yX10_isAllPlayInBounds ∈ GW := GW_mem (tm4 217 (by decide +kernel)) (by decide +kernel)
theorem mlX10_120 : Cond.methodLink RX10 120 yX10_playChange ∈ GW := GW_mem (tm4 209 (by decide +kernel)) (by decide +kernel)
theorem mlX10_124 : Cond.methodLink RX10 124 yX10_isInBounds ∈ GW := GW_mem (tm4 213 (by decide +kernel)) (by decide +kernel)
theorem mlX10_130 : Cond.methodLink RX10 130 yX10_moveVane ∈ GW := GW_mem (tm5 1 (by decide +kernel)) (by decide +kernel)
theorem mlX10_133 : Cond.methodLink RX10 133 yX10_toothBehindStep ∈ GW := GW_mem (tm4 233 (by decide +kernel)) (by decide +kernel)
theorem mlX10_142 : Cond.methodLink RX10 142 yX10_gain ∈ GW := GW_mem (tm4 225 (by decide +kernel)) (by decide +kernel)
theorem mlX10_145 : Cond.methodLink RX10 145 yX10_engage ∈ GW := GW_mem (tm4 201 (by decide +kernel)) (by decide +kernel)
theorem mlX10_148 : Cond.methodLink RX10 148 yJ6_bitCount_0f7a4 ∈ GW := GW_mem (tm5 144 (by decide +kernel)) (by decide +kernel)
theorem mlX10_153 : Cond.methodLink RX10 153 yX10_shorterWay ∈ GW := GW_mem (tm4 197 (by decide +kernel)) (by decide +kernel)
theorem mlX10_156 : Cond.methodLink RX10 156 yX10_force ∈ GW := GW_mem (tm4 221 (by decide +kernel)) (by decide +kernel)
theorem mlX10_162 : Cond.methodLink RX10 162 yX10_isDriven ∈ GW := GW_mem (tm4 189 (by decide +kernel)) (by decide +kernel)
theorem mlX10_165 : Cond.methodLink RX10 165 yX10_move ∈ GW := GW_mem (tm4 237 (by decide +kernel)) (by decide +kernel)
theorem mlX10_168 : Cond.methodLink RX10 168 yJ9_abs_0f7a4 ∈ GW := GW_mem (tm5 13 (by decide +kernel)) (by decide +kernel)
theorem mlX10_173 : Cond.methodLink RX10 173 yX10_goOn ∈ GW := GW_mem (tm5 142 (by decide +kernel)) (by decide +kernel)
theorem mlX10_176 : Cond.methodLink RX10 176 yX10_rightSet ∈ GW := GW_mem (tm5 143 (by decide +kernel)) (by decide +kernel)
theorem mlL_9 : Cond.methodLink RL 9 yX11_init ∈ GW := GW_mem (tm1 23 (by decide +kernel)) (by decide +kernel)
theorem mlL_12 : Cond.methodLink RL 12 yX12_init ∈ GW := GW_mem (tm6 107 (by decide +kernel)) (by decide +kernel)
theorem mlL_13 : Cond.methodLink RL 13 yX11_status ∈ GW := GW_mem (tm3 63 (by decide +kernel)) (by decide +kernel)
theorem mlL_17 : Cond.methodLink RL 17 yX12_status ∈ GW := GW_mem (tm7 7 (by decide +kernel)) (by decide +kernel)
theorem mlL_18 : Cond.methodLink RL 18 yX11_top ∈ GW := GW_mem (tm3 67 (by decide +kernel)) (by decide +kernel)
theorem mlL_22 : Cond.methodLink RL 22 yX12_top ∈ GW := GW_mem (tm7 11 (by decide +kernel)) (by decide +kernel)
theorem mlL_23 : Cond.methodLink RL 23 yX11_bottom ∈ GW := GW_mem (tm3 71 (by decide +kernel)) (by decide +kernel)
theorem mlL_26 : Cond.methodLink RL 26 yX12_bottom ∈ GW := GW_mem (tm7 15 (by decide +kernel)) (by decide +kernel)
theorem mlL_27 : Cond.methodLink RL 27 yX11_tray ∈ GW := GW_mem (tm3 75 (by decide +kernel)) (by decide +kernel)
theorem mlL_31 : Cond.methodLink RL 31 yX12_tray ∈ GW := GW_mem (tm7 19 (by decide +kernel)) (by decide +kernel)
theorem mlL_34 : Cond.methodLink RL 34 yX11_write ∈ GW := GW_mem (tm3 95 (by decide +kernel)) (by decide +kernel)
theorem mlL_38 : Cond.methodLink RL 38 yX12_write ∈ GW := GW_mem (tm7 30 (by decide +kernel)) (by decide +kernel)
theorem mlL_39 : Cond.methodLink RL 39 yX11_read ∈ GW := GW_mem (tm3 111 (by decide +kernel)) (by decide +kernel)
theorem mlL_43 : Cond.methodLink RL 43 yX12_read ∈ GW := GW_mem (tm7 41 (by decide +kernel)) (by decide +kernel)
theorem mlL_44 : Cond.methodLink RL 44 yX11_pour ∈ GW := GW_mem (tm3 119 (by decide +kernel)) (by decide +kernel)
theorem mlL_48 : Cond.methodLink RL 48 yX12_pour ∈ GW := GW_mem (tm7 46 (by decide +kernel)) (by decide +kernel)
theorem mlL_49 : Cond.methodLink RL 49 yX11_feed ∈ GW := GW_mem (tm3 130 (by decide +kernel)) (by decide +kernel)
theorem mlL_53 : Cond.methodLink RL 53 yX12_feed ∈ GW := GW_mem (tm7 50 (by decide +kernel)) (by decide +kernel)
theorem mlL_54 : Cond.methodLink RL 54 yX11_village ∈ GW := GW_mem (tm3 142 (by decide +kernel)) (by decide +kernel)
theorem mlL_58 : Cond.methodLink RL 58 yX12_village ∈ GW := GW_mem (tm7 62 (by decide +kernel)) (by decide +kernel)
theorem mlL_59 : Cond.methodLink RL 59 yX11_orders ∈ GW := GW_mem (tm4 45 (by decide +kernel)) (by decide +kernel)
theorem mlL_62 : Cond.methodLink RL 62 yX12_orders ∈ GW := GW_mem (tm7 207 (by decide +kernel)) (by decide +kernel)
theorem mlL_63 : Cond.methodLink RL 63 yX11_fault ∈ GW := GW_mem (tm4 106 (by decide +kernel)) (by decide +kernel)
theorem mlL_66 : Cond.methodLink RL 66 yX12_fault ∈ GW := GW_mem (tm7 58 (by decide +kernel)) (by decide +kernel)
theorem mlL_67 : Cond.methodLink RL 67 yX11_told ∈ GW := GW_mem (tm4 110 (by decide +kernel)) (by decide +kernel)
theorem mlL_70 : Cond.methodLink RL 70 yX12_told ∈ GW := GW_mem (tm7 227 (by decide +kernel)) (by decide +kernel)
theorem mlL_71 : Cond.methodLink RL 71 yX11_vane ∈ GW := GW_mem (tm4 114 (by decide +kernel)) (by decide +kernel)
theorem mlL_75 : Cond.methodLink RL 75 yX12_vane ∈ GW := GW_mem (tm7 231 (by decide +kernel)) (by decide +kernel)
theorem mlL_76 : Cond.methodLink RL 76 yX11_shaft ∈ GW := GW_mem (tm4 122 (by decide +kernel)) (by decide +kernel)
theorem mlL_79 : Cond.methodLink RL 79 yX12_shaft ∈ GW := GW_mem (tm7 239 (by decide +kernel)) (by decide +kernel)
theorem mlL_80 : Cond.methodLink RL 80 yX11_wants ∈ GW := GW_mem (tm4 130 (by decide +kernel)) (by decide +kernel)
theorem mlL_83 : Cond.methodLink RL 83 yX12_wants ∈ GW := GW_mem (tm8 7 (by decide +kernel)) (by decide +kernel)
theorem mlL_84 : Cond.methodLink RL 84 yX11_right ∈ GW := GW_mem (tm4 150 (by decide +kernel)) (by decide +kernel)
theorem mlL_87 : Cond.methodLink RL 87 yX12_right ∈ GW := GW_mem (tm8 27 (by decide +kernel)) (by decide +kernel)
theorem mlL_88 : Cond.methodLink RL 88 yX11_wind ∈ GW := GW_mem (tm4 158 (by decide +kernel)) (by decide +kernel)
theorem mlL_91 : Cond.methodLink RL 91 yX12_wind ∈ GW := GW_mem (tm8 35 (by decide +kernel)) (by decide +kernel)
theorem mlL_92 : Cond.methodLink RL 92 yX11_windAt ∈ GW := GW_mem (tm4 166 (by decide +kernel)) (by decide +kernel)
theorem mlL_95 : Cond.methodLink RL 95 yX12_windAt ∈ GW := GW_mem (tm8 50 (by decide +kernel)) (by decide +kernel)
theorem mlL_96 : Cond.methodLink RL 96 yX11_lift ∈ GW := GW_mem (tm4 170 (by decide +kernel)) (by decide +kernel)
theorem mlL_100 : Cond.methodLink RL 100 yX12_lift ∈ GW := GW_mem (tm8 54 (by decide +kernel)) (by decide +kernel)
theorem mlL_101 : Cond.methodLink RL 101 yX11_hold ∈ GW := GW_mem (tm4 177 (by decide +kernel)) (by decide +kernel)
theorem mlL_104 : Cond.methodLink RL 104 yX12_hold ∈ GW := GW_mem (tm8 58 (by decide +kernel)) (by decide +kernel)
theorem mlL_105 : Cond.methodLink RL 105 yX11_pass ∈ GW := GW_mem (tm4 181 (by decide +kernel)) (by decide +kernel)
theorem mlL_108 : Cond.methodLink RL 108 yX12_pass ∈ GW := GW_mem (tm8 62 (by decide +kernel)) (by decide +kernel)
theorem mlL_109 : Cond.methodLink RL 109 yX11_turn ∈ GW := GW_mem (tm5 5 (by decide +kernel)) (by decide +kernel)
theorem mlL_112 : Cond.methodLink RL 112 yX12_turn ∈ GW := GW_mem (tm8 126 (by decide +kernel)) (by decide +kernel)
theorem mlL_113 : Cond.methodLink RL 113 yX11_drags ∈ GW := GW_mem (tm5 16 (by decide +kernel)) (by decide +kernel)
theorem mlL_116 : Cond.methodLink RL 116 yX12_drags ∈ GW := GW_mem (tm8 135 (by decide +kernel)) (by decide +kernel)
theorem mlL_117 : Cond.methodLink RL 117 yX11_joined ∈ GW := GW_mem (tm5 21 (by decide +kernel)) (by decide +kernel)
theorem mlL_120 : Cond.methodLink RL 120 yX12_joined ∈ GW := GW_mem (tm8 143 (by decide +kernel)) (by decide +kernel)
theorem mlL_121 : Cond.methodLink RL 121 yX11_ratio ∈ GW := GW_mem (tm5 39 (by decide +kernel)) (by decide +kernel)
theorem mlL_125 : Cond.methodLink RL 125 yX12_ratio ∈ GW := GW_mem (tm8 155 (by decide +kernel)) (by decide +kernel)
theorem mlL_126 : Cond.methodLink RL 126 yX11_locked ∈ GW := GW_mem (tm5 54 (by decide +kernel)) (by decide +kernel)
theorem mlL_129 : Cond.methodLink RL 129 yX12_locked ∈ GW := GW_mem (tm8 163 (by decide +kernel)) (by decide +kernel)
theorem mlL_130 : Cond.methodLink RL 130 yX11_common ∈ GW := GW_mem (tm5 67 (by decide +kernel)) (by decide +kernel)
theorem mlL_134 : Cond.methodLink RL 134 yX12_common ∈ GW := GW_mem (tm8 167 (by decide +kernel)) (by decide +kernel)
theorem mlL_135 : Cond.methodLink RL 135 yX11_sway ∈ GW := GW_mem (tm5 74 (by decide +kernel)) (by decide +kernel)
theorem mlL_138 : Cond.methodLink RL 138 yX12_sway ∈ GW := GW_mem (tm8 171 (by decide +kernel)) (by decide +kernel)
theorem mlL_139 : Cond.methodLink RL 139 yX11_points ∈ GW := GW_mem (tm5 87 (by decide +kernel)) (by decide +kernel)
theorem mlL_142 : Cond.methodLink RL 142 yX12_points ∈ GW := GW_mem (tm8 175 (by decide +kernel)) (by decide +kernel)
theorem mlL_143 : Cond.methodLink RL 143 yX11_rights ∈ GW := GW_mem (tm5 104 (by decide +kernel)) (by decide +kernel)
theorem mlL_146 : Cond.methodLink RL 146 yX12_rights ∈ GW := GW_mem (tm8 182 (by decide +kernel)) (by decide +kernel)
theorem mlL_147 : Cond.methodLink RL 147 yX11_again ∈ GW := GW_mem (tm5 113 (by decide +kernel)) (by decide +kernel)
theorem mlL_150 : Cond.methodLink RL 150 yX12_again ∈ GW := GW_mem (tm8 190 (by decide +kernel)) (by decide +kernel)
theorem mlL_151 : Cond.methodLink RL 151 yX11_strikes ∈ GW := GW_mem (tm5 121 (by decide +kernel)) (by decide +kernel)
theorem mlL_154 : Cond.methodLink RL 154 yX12_strikes ∈ GW := GW_mem (tm8 198 (by decide +kernel)) (by decide +kernel)
theorem mlL_155 : Cond.methodLink RL 155 yX11_bell ∈ GW := GW_mem (tm5 129 (by decide +kernel)) (by decide +kernel)
theorem mlL_158 : Cond.methodLink RL 158 yX12_bell ∈ GW := GW_mem (tm8 205 (by decide +kernel)) (by decide +kernel)
theorem mlL_159 : Cond.methodLink RL 159 yX11_wrong ∈ GW := GW_mem (tm5 134 (by decide +kernel)) (by decide +kernel)
theorem mlL_162 : Cond.methodLink RL 162 yX12_wrong ∈ GW := GW_mem (tm8 209 (by decide +kernel)) (by decide +kernel)
theorem mlL_163 : Cond.methodLink RL 163 yX11_holding ∈ GW := GW_mem (tm5 150 (by decide +kernel)) (by decide +kernel)
theorem mlL_166 : Cond.methodLink RL 166 yX12_holding ∈ GW := GW_mem (tm8 217 (by decide +kernel)) (by decide +kernel)
theorem mlL_167 : Cond.methodLink RL 167 yX11_helpers ∈ GW := GW_mem (tm5 158 (by decide +kernel)) (by decide +kernel)
theorem mlL_170 : Cond.methodLink RL 170 yX12_helpers ∈ GW := GW_mem (tm8 221 (by decide +kernel)) (by decide +kernel)
theorem mlL_171 : Cond.methodLink RL 171 yX11_firstToTurn ∈ GW := GW_mem (tm5 167 (by decide +kernel)) (by decide +kernel)
theorem mlL_174 : Cond.methodLink RL 174 yX12_firstToTurn ∈ GW := GW_mem (tm8 225 (by decide +kernel)) (by decide +kernel)
theorem mlL_175 : Cond.methodLink RL 175 yX11_heaviest ∈ GW := GW_mem (tm5 175 (by decide +kernel)) (by decide +kernel)
theorem mlL_178 : Cond.methodLink RL 178 yX12_heaviest ∈ GW := GW_mem (tm8 233 (by decide +kernel)) (by decide +kernel)
theorem mlL_179 : Cond.methodLink RL 179 yX11_farthest ∈ GW := GW_mem (tm5 186 (by decide +kernel)) (by decide +kernel)
theorem mlL_182 : Cond.methodLink RL 182 yX12_farthest ∈ GW := GW_mem (tm9 0 (by decide +kernel)) (by decide +kernel)
theorem mlL_183 : Cond.methodLink RL 183 yX11_calmed ∈ GW := GW_mem (tm5 194 (by decide +kernel)) (by decide +kernel)
theorem mlL_186 : Cond.methodLink RL 186 yX12_calmed ∈ GW := GW_mem (tm9 4 (by decide +kernel)) (by decide +kernel)
theorem mlL_187 : Cond.methodLink RL 187 yX11_teeth ∈ GW := GW_mem (tm5 198 (by decide +kernel)) (by decide +kernel)
theorem mlL_190 : Cond.methodLink RL 190 yX12_teeth ∈ GW := GW_mem (tm9 8 (by decide +kernel)) (by decide +kernel)
theorem mlL_191 : Cond.methodLink RL 191 yX11_bestWind ∈ GW := GW_mem (tm5 202 (by decide +kernel)) (by decide +kernel)
theorem mlL_194 : Cond.methodLink RL 194 yX12_bestWind ∈ GW := GW_mem (tm9 12 (by decide +kernel)) (by decide +kernel)
theorem mlL_195 : Cond.methodLink RL 195 yX11_parting ∈ GW := GW_mem (tm5 220 (by decide +kernel)) (by decide +kernel)
theorem mlL_198 : Cond.methodLink RL 198 yX12_parting ∈ GW := GW_mem (tm9 24 (by decide +kernel)) (by decide +kernel)
theorem mlL_199 : Cond.methodLink RL 199 yX11_mending ∈ GW := GW_mem (tm5 228 (by decide +kernel)) (by decide +kernel)
theorem mlL_202 : Cond.methodLink RL 202 yX12_mending ∈ GW := GW_mem (tm9 28 (by decide +kernel)) (by decide +kernel)
theorem mlL_203 : Cond.methodLink RL 203 yX11_leaving ∈ GW := GW_mem (tm5 232 (by decide +kernel)) (by decide +kernel)
theorem mlL_206 : Cond.methodLink RL 206 yX12_leaving ∈ GW := GW_mem (tm9 36 (by decide +kernel)) (by decide +kernel)
theorem mlL_207 : Cond.methodLink RL 207 yX11_knowing ∈ GW := GW_mem (tm6 0 (by decide +kernel)) (by decide +kernel)
theorem mlL_210 : Cond.methodLink RL 210 yX12_knowing ∈ GW := GW_mem (tm9 44 (by decide +kernel)) (by decide +kernel)
theorem mlL_211 : Cond.methodLink RL 211 yX11_whole ∈ GW := GW_mem (tm6 4 (by decide +kernel)) (by decide +kernel)
theorem mlL_214 : Cond.methodLink RL 214 yX12_whole ∈ GW := GW_mem (tm9 48 (by decide +kernel)) (by decide +kernel)
theorem mlL_215 : Cond.methodLink RL 215 yX11_broken ∈ GW := GW_mem (tm6 20 (by decide +kernel)) (by decide +kernel)
theorem mlL_218 : Cond.methodLink RL 218 yX12_broken ∈ GW := GW_mem (tm9 61 (by decide +kernel)) (by decide +kernel)
theorem mlL_219 : Cond.methodLink RL 219 yX11_run ∈ GW := GW_mem (tm6 24 (by decide +kernel)) (by decide +kernel)
theorem mlL_222 : Cond.methodLink RL 222 yX12_run ∈ GW := GW_mem (tm9 65 (by decide +kernel)) (by decide +kernel)
theorem mlL_223 : Cond.methodLink RL 223 yX11_ran ∈ GW := GW_mem (tm6 70 (by decide +kernel)) (by decide +kernel)
theorem mlL_226 : Cond.methodLink RL 226 yX12_ran ∈ GW := GW_mem (tm9 91 (by decide +kernel)) (by decide +kernel)
theorem mlL_227 : Cond.methodLink RL 227 yX11_ranTo ∈ GW := GW_mem (tm6 74 (by decide +kernel)) (by decide +kernel)
theorem mlL_230 : Cond.methodLink RL 230 yX12_ranTo ∈ GW := GW_mem (tm9 95 (by decide +kernel)) (by decide +kernel)
theorem mlL_231 : Cond.methodLink RL 231 yX11_odds ∈ GW := GW_mem (tm6 78 (by decide +kernel)) (by decide +kernel)
theorem mlL_234 : Cond.methodLink RL 234 yX12_odds ∈ GW := GW_mem (tm9 99 (by decide +kernel)) (by decide +kernel)
theorem mlL_235 : Cond.methodLink RL 235 yX11_mark ∈ GW := GW_mem (tm6 82 (by decide +kernel)) (by decide +kernel)
theorem mlL_238 : Cond.methodLink RL 238 yX12_mark ∈ GW := GW_mem (tm9 104 (by decide +kernel)) (by decide +kernel)
theorem mlL_239 : Cond.methodLink RL 239 yX11_back ∈ GW := GW_mem (tm6 101 (by decide +kernel)) (by decide +kernel)
theorem mlL_242 : Cond.methodLink RL 242 yX12_back ∈ GW := GW_mem (tm9 112 (by decide +kernel)) (by decide +kernel)
theorem mlX12_83 : Cond.methodLink RX12 83 yX12_refuse ∈ GW := GW_mem (tm7 86 (by decide +kernel)) (by decide +kernel)
theorem mlX12_87 : Cond.methodLink RX12 87 yX12_gives ∈ GW := GW_mem (tm7 203 (by decide +kernel)) (by decide +kernel)
theorem mlX12_90 : Cond.methodLink RX12 90 yX12_is ∈ GW := GW_mem (tm7 26 (by decide +kernel)) (by decide +kernel)
theorem mlX12_94 : Cond.methodLink RX12 94 yX12_isTray ∈ GW := GW_mem (tm7 23 (by decide +kernel)) (by decide +kernel)
theorem mlX12_97 : Cond.methodLink RX12 97 yX12_wrongPlace ∈ GW := GW_mem (tm7 34 (by decide +kernel)) (by decide +kernel)
theorem mlX12_101 : Cond.methodLink RX12 101 yX12_cut ∈ GW := GW_mem (tm7 38 (by decide +kernel)) (by decide +kernel)
theorem mlX12_110 : Cond.methodLink RX12 110 yX12_four ∈ GW := GW_mem (tm7 54 (by decide +kernel)) (by decide +kernel)
theorem mlX12_120 : Cond.methodLink RX12 120 yX12_byteAt ∈ GW := GW_mem (tm7 74 (by decide +kernel)) (by decide +kernel)
theorem mlX12_132 : Cond.methodLink RX12 132 yX12_isSmall ∈ GW := GW_mem (tm7 78 (by decide +kernel)) (by decide +kernel)
theorem mlX12_135 : Cond.methodLink RX12 135 yX12_isDigit ∈ GW := GW_mem (tm7 81 (by decide +kernel)) (by decide +kernel)
theorem mlX12_139 : Cond.methodLink RX12 139 yJ9_min_7cf53 ∈ GW := GW_mem (tm7 85 (by decide +kernel)) (by decide +kernel)
theorem mlX12_144 : Cond.methodLink RX12 144 yJ0_length_8abf5 ∈ GW := GW_mem (tm7 99 (by decide +kernel)) (by decide +kernel)
theorem mlX12_150 : Cond.methodLink RX12 150 yJ0_charAt_5068e ∈ GW := GW_mem (tm7 109 (by decide +kernel)) (by decide +kernel)
theorem mlX12_160 : Cond.methodLink RX12 160 yX12_ahead ∈ GW := GW_mem (tm7 70 (by decide +kernel)) (by decide +kernel)
theorem mlX12_163 : Cond.methodLink RX12 163 yX12_isSign ∈ GW := GW_mem (tm7 195 (by decide +kernel)) (by decide +kernel)
theorem mlX12_166 : Cond.methodLink RX12 166 yX12_fails ∈ GW := GW_mem (tm7 151 (by decide +kernel)) (by decide +kernel)
theorem mlX12_169 : Cond.methodLink RX12 169 yX12_inWords ∈ GW := GW_mem (tm7 95 (by decide +kernel)) (by decide +kernel)
theorem mlX12_173 : Cond.methodLink RX12 173 yX12_nameHere ∈ GW := GW_mem (tm7 167 (by decide +kernel)) (by decide +kernel)
theorem mlX12_177 : Cond.methodLink RX12 177 yX12_findHere ∈ GW := GW_mem (tm7 163 (by decide +kernel)) (by decide +kernel)
theorem mlX12_182 : Cond.methodLink RX12 182 yX12_isName ∈ GW := GW_mem (tm7 155 (by decide +kernel)) (by decide +kernel)
theorem mlX12_186 : Cond.methodLink RX12 186 yX12_isNew ∈ GW := GW_mem (tm7 159 (by decide +kernel)) (by decide +kernel)
theorem mlX12_193 : Cond.methodLink RX12 193 yX12_newOne ∈ GW := GW_mem (tm7 147 (by decide +kernel)) (by decide +kernel)
theorem mlX12_197 : Cond.methodLink RX12 197 yX12_wantWord ∈ GW := GW_mem (tm7 175 (by decide +kernel)) (by decide +kernel)
theorem mlX12_201 : Cond.methodLink RX12 201 yX12_number ∈ GW := GW_mem (tm7 179 (by decide +kernel)) (by decide +kernel)
theorem mlX12_204 : Cond.methodLink RX12 204 yX12_oldOne ∈ GW := GW_mem (tm7 183 (by decide +kernel)) (by decide +kernel)
theorem mlX12_207 : Cond.methodLink RX12 207 yX12_aVane ∈ GW := GW_mem (tm7 171 (by decide +kernel)) (by decide +kernel)
theorem mlX12_210 : Cond.methodLink RX12 210 yX12_aShaft ∈ GW := GW_mem (tm7 187 (by decide +kernel)) (by decide +kernel)
theorem mlX12_213 : Cond.methodLink RX12 213 yX12_wantSign ∈ GW := GW_mem (tm7 191 (by decide +kernel)) (by decide +kernel)
theorem mlX12_216 : Cond.methodLink RX12 216 yX12_begins ∈ GW := GW_mem (tm7 66 (by decide +kernel)) (by decide +kernel)
theorem mlX12_220 : Cond.methodLink RX12 220 yX12_villagePart ∈ GW := GW_mem (tm7 90 (by decide +kernel)) (by decide +kernel)
theorem mlX12_223 : Cond.methodLink RX12 223 yX12_taken ∈ GW := GW_mem (tm7 199 (by decide +kernel)) (by decide +kernel)
theorem mlX12_226 : Cond.methodLink RX12 226 yX12_orderName ∈ GW := GW_mem (tm7 219 (by decide +kernel)) (by decide +kernel)
theorem mlX12_229 : Cond.methodLink RX12 229 yX12_aTest ∈ GW := GW_mem (tm7 223 (by decide +kernel)) (by decide +kernel)
theorem mlX12_238 : Cond.methodLink RX12 238 yX12_order ∈ GW := GW_mem (tm7 215 (by decide +kernel)) (by decide +kernel)
theorem mlX12_240 : Cond.methodLink RX12 240 yX12_step ∈ GW := GW_mem (tm7 211 (by decide +kernel)) (by decide +kernel)
theorem mlX12_243 : Cond.methodLink RX12 243 yX12_isVane ∈ GW := GW_mem (tm7 235 (by decide +kernel)) (by decide +kernel)
theorem mlX12_246 : Cond.methodLink RX12 246 yX12_isShaft ∈ GW := GW_mem (tm8 3 (by decide +kernel)) (by decide +kernel)
theorem mlX12_249 : Cond.methodLink RX12 249 yX12_vaneAt ∈ GW := GW_mem (tm8 19 (by decide +kernel)) (by decide +kernel)
theorem mlX12_252 : Cond.methodLink RX12 252 yX12_isCalm ∈ GW := GW_mem (tm8 15 (by decide +kernel)) (by decide +kernel)
theorem mlX12_255 : Cond.methodLink RX12 255 yX12_wantOf ∈ GW := GW_mem (tm8 23 (by decide +kernel)) (by decide +kernel)
theorem mlX12_258 : Cond.methodLink RX12 258 yX12_isRight ∈ GW := GW_mem (tm8 31 (by decide +kernel)) (by decide +kernel)
theorem mlX12_261 : Cond.methodLink RX12 261 yX12_begins0 ∈ GW := GW_mem (tm8 11 (by decide +kernel)) (by decide +kernel)
theorem mlX12_264 : Cond.methodLink RX12 264 yX12_toRight ∈ GW := GW_mem (tm8 82 (by decide +kernel)) (by decide +kernel)
theorem mlX12_267 : Cond.methodLink RX12 267 yX12_shaftAt ∈ GW := GW_mem (tm8 90 (by decide +kernel)) (by decide +kernel)
theorem mlX12_270 : Cond.methodLink RX12 270 yX12_playBehind ∈ GW := GW_mem (tm8 102 (by decide +kernel)) (by decide +kernel)
theorem mlX12_273 : Cond.methodLink RX12 273 yX12_isJoining ∈ GW := GW_mem (tm8 94 (by decide +kernel)) (by decide +kernel)
theorem mlX12_276 : Cond.methodLink RX12 276 yX12_isOut ∈ GW := GW_mem (tm8 98 (by decide +kernel)) (by decide +kernel)
theorem mlX12_279 : Cond.methodLink RX12 279 yX12_turned ∈ GW := GW_mem (tm8 114 (by decide +kernel)) (by decide +kernel)
theorem mlX12_288 : Cond.methodLink RX12 288 yX12_farFrom ∈ GW := GW_mem (tm8 110 (by decide +kernel)) (by decide +kernel)
theorem mlX12_294 : Cond.methodLink RX12 294 yX12_shorter ∈ GW := GW_mem (tm8 78 (by decide +kernel)) (by decide +kernel)
theorem mlX12_297 : Cond.methodLink RX12 297 yX12_dragsBy ∈ GW := GW_mem (tm8 86 (by decide +kernel)) (by decide +kernel)
theorem mlX12_300 : Cond.methodLink RX12 300 yX12_isStronger ∈ GW := GW_mem (tm8 106 (by decide +kernel)) (by decide +kernel)
theorem mlX12_303 : Cond.methodLink RX12 303 yX12_turnsAll ∈ GW := GW_mem (tm8 118 (by decide +kernel)) (by decide +kernel)
theorem mlX12_306 : Cond.methodLink RX12 306 yX12_quarterGoes ∈ GW := GW_mem (tm8 74 (by decide +kernel)) (by decide +kernel)
theorem mlX12_313 : Cond.methodLink RX12 313 yX12_isPlace ∈ GW := GW_mem (tm8 39 (by decide +kernel)) (by decide +kernel)
theorem mlX12_316 : Cond.methodLink RX12 316 yX12_isDirection ∈ GW := GW_mem (tm8 43 (by decide +kernel)) (by decide +kernel)
theorem mlX12_321 : Cond.methodLink RX12 321 yX12_isFrom ∈ GW := GW_mem (tm8 47 (by decide +kernel)) (by decide +kernel)
theorem mlX12_325 : Cond.methodLink RX12 325 yX12_begins1 ∈ GW := GW_mem (tm8 66 (by decide +kernel)) (by decide +kernel)
theorem mlX12_328 : Cond.methodLink RX12 328 yX12_goesBy ∈ GW := GW_mem (tm8 70 (by decide +kernel)) (by decide +kernel)
theorem mlX12_331 : Cond.methodLink RX12 331 yX12_laysBack ∈ GW := GW_mem (tm8 122 (by decide +kernel)) (by decide +kernel)
theorem mlX12_336 : Cond.methodLink RX12 336 yX12_turnsBy ∈ GW := GW_mem (tm8 131 (by decide +kernel)) (by decide +kernel)
theorem mlX12_339 : Cond.methodLink RX12 339 yX12_turnedSet ∈ GW := GW_mem (tm8 139 (by decide +kernel)) (by decide +kernel)
theorem mlX12_345 : Cond.methodLink RX12 345 yX12_otherOf ∈ GW := GW_mem (tm8 151 (by decide +kernel)) (by decide +kernel)
theorem mlX12_348 : Cond.methodLink RX12 348 yX12_joinedWith ∈ GW := GW_mem (tm8 147 (by decide +kernel)) (by decide +kernel)
theorem mlX12_351 : Cond.methodLink RX12 351 yX12_tellsBy ∈ GW := GW_mem (tm8 159 (by decide +kernel)) (by decide +kernel)
theorem mlX12_355 : Cond.methodLink RX12 355 yX12_isAhead ∈ GW := GW_mem (tm8 179 (by decide +kernel)) (by decide +kernel)
theorem mlX12_358 : Cond.methodLink RX12 358 yX12_rightSet ∈ GW := GW_mem (tm8 186 (by decide +kernel)) (by decide +kernel)
theorem mlX12_361 : Cond.methodLink RX12 361 yX12_isAgain ∈ GW := GW_mem (tm8 194 (by decide +kernel)) (by decide +kernel)
theorem mlX12_364 : Cond.methodLink RX12 364 yX12_isSpan ∈ GW := GW_mem (tm8 202 (by decide +kernel)) (by decide +kernel)
theorem mlX12_367 : Cond.methodLink RX12 367 yX12_wrongOf ∈ GW := GW_mem (tm8 213 (by decide +kernel)) (by decide +kernel)
theorem mlX12_370 : Cond.methodLink RX12 370 yX12_orNone ∈ GW := GW_mem (tm8 229 (by decide +kernel)) (by decide +kernel)
theorem mlX12_373 : Cond.methodLink RX12 373 yX12_bits ∈ GW := GW_mem (tm8 237 (by decide +kernel)) (by decide +kernel)
theorem mlX12_376 : Cond.methodLink RX12 376 yX12_blows ∈ GW := GW_mem (tm9 20 (by decide +kernel)) (by decide +kernel)
theorem mlX12_380 : Cond.methodLink RX12 380 yX12_blowsAll ∈ GW := GW_mem (tm9 16 (by decide +kernel)) (by decide +kernel)
theorem mlX12_384 : Cond.methodLink RX12 384 yX12_rightsBy ∈ GW := GW_mem (tm9 32 (by decide +kernel)) (by decide +kernel)
theorem mlX12_387 : Cond.methodLink RX12 387 yX12_leavingBy ∈ GW := GW_mem (tm9 40 (by decide +kernel)) (by decide +kernel)
theorem mlX12_392 : Cond.methodLink RX12 392 yX12_wrongRows ∈ GW := GW_mem (tm9 52 (by decide +kernel)) (by decide +kernel)
theorem mlX12_395 : Cond.methodLink RX12 395 yX12_isSeen ∈ GW := GW_mem (tm9 57 (by decide +kernel)) (by decide +kernel)
theorem mlX12_402 : Cond.methodLink RX12 402 yX12_draw ∈ GW := GW_mem (tm9 78 (by decide +kernel)) (by decide +kernel)
theorem mlX12_417 : Cond.methodLink RX12 417 yX12_does ∈ GW := GW_mem (tm9 74 (by decide +kernel)) (by decide +kernel)
theorem mlX12_420 : Cond.methodLink RX12 420 yX12_holdsNow ∈ GW := GW_mem (tm9 83 (by decide +kernel)) (by decide +kernel)
theorem mlX12_423 : Cond.methodLink RX12 423 yX12_behindEnds ∈ GW := GW_mem (tm9 87 (by decide +kernel)) (by decide +kernel)
theorem mlX12_428 : Cond.methodLink RX12 428 yX12_runs ∈ GW := GW_mem (tm9 70 (by decide +kernel)) (by decide +kernel)
theorem mlX12_436 : Cond.methodLink RX12 436 yX12_copies ∈ GW := GW_mem (tm9 108 (by decide +kernel)) (by decide +kernel)
theorem mlJ0_335 : Cond.methodLink RJ0 335 yJ0_coder_7d493 ∈ GW := GW_mem (tm7 103 (by decide +kernel)) (by decide +kernel)
theorem mlJ0_492 : Cond.methodLink RJ0 492 yJ0_isLatin1_aae02 ∈ GW := GW_mem (tm7 113 (by decide +kernel)) (by decide +kernel)
theorem mlJ0_495 : Cond.methodLink RJ0 495 yJ1_charAt_3b067 ∈ GW := GW_mem (tm7 117 (by decide +kernel)) (by decide +kernel)
theorem mlJ0_498 : Cond.methodLink RJ0 498 yJ2_charAt_3b067 ∈ GW := GW_mem (tm7 128 (by decide +kernel)) (by decide +kernel)
theorem mlJ0_1059 : Cond.methodLink RJ0 1059 yJ3_checkIndex_8e157 ∈ GW := GW_mem (tm7 125 (by decide +kernel)) (by decide +kernel)
theorem mlJ1_9 : Cond.methodLink RJ1 9 yJ0_checkIndex_df160 ∈ GW := GW_mem (tm7 120 (by decide +kernel)) (by decide +kernel)
theorem mlJ2_48 : Cond.methodLink RJ2 48 yJ2_length_9d52b ∈ GW := GW_mem (tm7 134 (by decide +kernel)) (by decide +kernel)
theorem mlJ2_67 : Cond.methodLink RJ2 67 yJ2_checkIndex_2214a ∈ GW := GW_mem (tm7 131 (by decide +kernel)) (by decide +kernel)
theorem mlJ2_71 : Cond.methodLink RJ2 71 yJ2_getChar_3b067 ∈ GW := GW_mem (tm7 138 (by decide +kernel)) (by decide +kernel)
theorem mlJ2_414 : Cond.methodLink RJ2 414 yJ0_checkIndex_df160 ∈ GW := GW_mem (tm7 137 (by decide +kernel)) (by decide +kernel)
theorem mnX11_21 : (RX11, 21, yX6_init, "VaneTown") ∈ nwL := by decide +kernel
theorem mnX11_28 : (RX11, 28, yX9_init, "VaneTown") ∈ nwL := by decide +kernel
theorem mnX11_35 : (RX11, 35, yX1_init, "VaneTown") ∈ nwL := by decide +kernel
theorem mnX11_49 : (RX11, 49, yX7_init, "VaneTown") ∈ nwL := by decide +kernel
theorem mnX11_56 : (RX11, 56, yX2_init, "VaneTown") ∈ nwL := by decide +kernel
theorem mnX11_63 : (RX11, 63, yX5_init, "VaneTown") ∈ nwL := by decide +kernel
theorem mnX11_74 : (RX11, 74, yX10_init, "VaneTown") ∈ nwL := by decide +kernel
theorem mnX11_81 : (RX11, 81, yX4_init, "VaneTown") ∈ nwL := by decide +kernel
theorem mnX11_88 : (RX11, 88, yX0_init, "VaneTown") ∈ nwL := by decide +kernel
theorem mnX11_95 : (RX11, 95, yX3_init, "VaneTown") ∈ nwL := by decide +kernel
theorem mnX11_100 : (RX11, 100, yX8_init, "VaneTown") ∈ nwL := by decide +kernel
theorem mnX0_43 : (RX0, 43, yX11_has, "VaneTown") ∈ nwL := by decide +kernel
theorem mnX0_47 : (RX0, 47, yX11_with, "VaneTown") ∈ nwL := by decide +kernel
theorem mnX3_11 : (RX3, 11, yX4_init, "VaneTown") ∈ nwL := by decide +kernel
theorem mnX3_155 : (RX3, 155, yX11_with, "VaneTown") ∈ nwL := by decide +kernel
theorem mnX7_9 : (RX7, 9, yX2_init, "VaneTown") ∈ nwL := by decide +kernel
theorem mnX7_18 : (RX7, 18, yX4_init, "VaneTown") ∈ nwL := by decide +kernel
theorem mnX7_25 : (RX7, 25, yX5_init, "VaneTown") ∈ nwL := by decide +kernel
theorem mnX10_76 : (RX10, 76, yX11_with, "VaneTown") ∈ nwL := by decide +kernel
theorem mnX10_113 : (RX10, 113, yX11_has, "VaneTown") ∈ nwL := by decide +kernel
theorem kcX3_73 : Cond.constant RX3 73 (1000000) ∈ GW := GW_mem (tm6 34 (by decide +kernel)) (by decide +kernel)
theorem kcX3_169 : Cond.constant RX3 169 (65536) ∈ GW := GW_mem (tm6 51 (by decide +kernel)) (by decide +kernel)
theorem kcX12_138 : Cond.constant RX12 138 (100000) ∈ GW := GW_mem (tm7 84 (by decide +kernel)) (by decide +kernel)
theorem kcX12_401 : Cond.constant RX12 401 (65536) ∈ GW := GW_mem (tm9 82 (by decide +kernel)) (by decide +kernel)
theorem kcJ6_265 : Cond.constant RJ6 265 (1431655765) ∈ GW := GW_mem (tm5 147 (by decide +kernel)) (by decide +kernel)
theorem kcJ6_266 : Cond.constant RJ6 266 (858993459) ∈ GW := GW_mem (tm5 148 (by decide +kernel)) (by decide +kernel)
theorem kcJ6_267 : Cond.constant RJ6 267 (252645135) ∈ GW := GW_mem (tm5 149 (by decide +kernel)) (by decide +kernel)
theorem klL_32 : Cond.constantLong RL 32 (4294967295) ∈ GW := GW_mem (tm9 116 (by decide +kernel)) (by decide +kernel)
theorem klX12_105 : Cond.constantLong RX12 105 (-1) ∈ GW := GW_mem (tm7 45 (by decide +kernel)) (by decide +kernel)
theorem klX12_319 : Cond.constantLong RX12 319 (99) ∈ GW := GW_mem (tm8 46 (by decide +kernel)) (by decide +kernel)
theorem klX12_334 : Cond.constantLong RX12 334 (-99) ∈ GW := GW_mem (tm8 130 (by decide +kernel)) (by decide +kernel)
theorem klX12_390 : Cond.constantLong RX12 390 (15) ∈ GW := GW_mem (tm9 56 (by decide +kernel)) (by decide +kernel)
theorem klX12_426 : Cond.constantLong RX12 426 (9999) ∈ GW := GW_mem (tm9 69 (by decide +kernel)) (by decide +kernel)
theorem klX12_431 : Cond.constantLong RX12 431 (20) ∈ GW := GW_mem (tm9 103 (by decide +kernel)) (by decide +kernel)
theorem ha0_0 : 0 < 13 ∧ 0 < nA 0 ∧ at_ 0 0 = (1, 8) := by decide
theorem ha0_1 : 0 < 13 ∧ 1 < nA 0 ∧ at_ 0 1 = (1, 8) := by decide
theorem ha0_2 : 0 < 13 ∧ 2 < nA 0 ∧ at_ 0 2 = (1, 8) := by decide
theorem ha1_0 : 1 < 13 ∧ 0 < nA 1 ∧ at_ 1 0 = (1, 3) := by decide
theorem ha2_0 : 2 < 13 ∧ 0 < nA 2 ∧ at_ 2 0 = (2, 4) := by decide
theorem ha2_1 : 2 < 13 ∧ 1 < nA 2 ∧ at_ 2 1 = (2, 8) := by decide
theorem ha2_2 : 2 < 13 ∧ 2 < nA 2 ∧ at_ 2 2 = (2, 10) := by decide
theorem ha2_3 : 2 < 13 ∧ 3 < nA 2 ∧ at_ 2 3 = (1, 8) := by decide
theorem ha2_4 : 2 < 13 ∧ 4 < nA 2 ∧ at_ 2 4 = (1, 8) := by decide
theorem ha2_5 : 2 < 13 ∧ 5 < nA 2 ∧ at_ 2 5 = (1, 8) := by decide
theorem ha2_6 : 2 < 13 ∧ 6 < nA 2 ∧ at_ 2 6 = (1, 8) := by decide
theorem ha2_7 : 2 < 13 ∧ 7 < nA 2 ∧ at_ 2 7 = (1, 10) := by decide
theorem ha2_8 : 2 < 13 ∧ 8 < nA 2 ∧ at_ 2 8 = (1, 10) := by decide
theorem ha2_9 : 2 < 13 ∧ 9 < nA 2 ∧ at_ 2 9 = (1, 10) := by decide
theorem ha2_10 : 2 < 13 ∧ 10 < nA 2 ∧ at_ 2 10 = (1, 10) := by decide
theorem ha3_0 : 3 < 13 ∧ 0 < nA 3 ∧ at_ 3 0 = (1, 60) := by decide
theorem ha3_1 : 3 < 13 ∧ 1 < nA 3 ∧ at_ 3 1 = (1, 5) := by decide
theorem ha3_2 : 3 < 13 ∧ 2 < nA 3 ∧ at_ 3 2 = (1, 8) := by decide
theorem ha4_0 : 4 < 13 ∧ 0 < nA 4 ∧ at_ 4 0 = (1, 4) := by decide
theorem ha4_1 : 4 < 13 ∧ 1 < nA 4 ∧ at_ 4 1 = (1, 4) := by decide
theorem ha4_2 : 4 < 13 ∧ 2 < nA 4 ∧ at_ 4 2 = (1, 8) := by decide
theorem ha4_3 : 4 < 13 ∧ 3 < nA 4 ∧ at_ 4 3 = (1, 8) := by decide
theorem ha4_4 : 4 < 13 ∧ 4 < nA 4 ∧ at_ 4 4 = (1, 8) := by decide
theorem ha4_5 : 4 < 13 ∧ 5 < nA 4 ∧ at_ 4 5 = (1, 10) := by decide
theorem ha5_0 : 5 < 13 ∧ 0 < nA 5 ∧ at_ 5 0 = (1, 60) := by decide
theorem ha5_1 : 5 < 13 ∧ 1 < nA 5 ∧ at_ 5 1 = (1, 60) := by decide
theorem ha5_2 : 5 < 13 ∧ 2 < nA 5 ∧ at_ 5 2 = (1, 60) := by decide
theorem ha5_3 : 5 < 13 ∧ 3 < nA 5 ∧ at_ 5 3 = (1, 60) := by decide
theorem ha5_4 : 5 < 13 ∧ 4 < nA 5 ∧ at_ 5 4 = (1, 60) := by decide
theorem ha6_0 : 6 < 13 ∧ 0 < nA 6 ∧ at_ 6 0 = (0, 900) := by decide
theorem ha8_0 : 8 < 13 ∧ 0 < nA 8 ∧ at_ 8 0 = (2, 60) := by decide
theorem ha10_0 : 10 < 13 ∧ 0 < nA 10 ∧ at_ 10 0 = (1, 8) := by decide
theorem ha10_1 : 10 < 13 ∧ 1 < nA 10 ∧ at_ 10 1 = (1, 8) := by decide
theorem ha11_0 : 11 < 13 ∧ 0 < nA 11 ∧ at_ 11 0 = (3, 4) := by decide
theorem ha11_1 : 11 < 13 ∧ 1 < nA 11 ∧ at_ 11 1 = (4, 3) := by decide
theorem ha12_0 : 12 < 13 ∧ 0 < nA 12 ∧ at_ 12 0 = (1, 2950) := by decide
theorem ha12_1 : 12 < 13 ∧ 1 < nA 12 ∧ at_ 12 1 = (2, 120) := by decide
theorem ha12_2 : 12 < 13 ∧ 2 < nA 12 ∧ at_ 12 2 = (1, 4) := by decide
theorem ha12_3 : 12 < 13 ∧ 3 < nA 12 ∧ at_ 12 3 = (1, 4) := by decide
theorem ha12_4 : 12 < 13 ∧ 4 < nA 12 ∧ at_ 12 4 = (2, 240) := by decide
theorem ha12_5 : 12 < 13 ∧ 5 < nA 12 ∧ at_ 12 5 = (0, 900) := by decide
theorem ha12_6 : 12 < 13 ∧ 6 < nA 12 ∧ at_ 12 6 = (0, 900) := by decide
theorem ha12_7 : 12 < 13 ∧ 7 < nA 12 ∧ at_ 12 7 = (1, 3) := by decide
theorem ha12_8 : 12 < 13 ∧ 8 < nA 12 ∧ at_ 12 8 = (1, 8) := by decide
theorem ha12_9 : 12 < 13 ∧ 9 < nA 12 ∧ at_ 12 9 = (1, 12800) := by decide
theorem ha12_10 : 12 < 13 ∧ 10 < nA 12 ∧ at_ 12 10 = (1, 8) := by decide
theorem ha12_11 : 12 < 13 ∧ 11 < nA 12 ∧ at_ 12 11 = (1, 8) := by decide
theorem ha12_12 : 12 < 13 ∧ 12 < nA 12 ∧ at_ 12 12 = (1, 8) := by decide
theorem ha12_13 : 12 < 13 ∧ 13 < nA 12 ∧ at_ 12 13 = (1, 7300) := by decide
theorem ha12_14 : 12 < 13 ∧ 14 < nA 12 ∧ at_ 12 14 = (1, 80) := by decide
theorem ha12_15 : 12 < 13 ∧ 15 < nA 12 ∧ at_ 12 15 = (1, 5) := by decide
theorem ha12_16 : 12 < 13 ∧ 16 < nA 12 ∧ at_ 12 16 = (1, 8) := by decide
theorem kd_lt {o c : Nat} (h : KD o = c) (hc : c < 13) : o < 32 := by
  rcases Nat.lt_or_ge o 32 with q | q
  · exact q
  · have : KD o = 99 := by
      unfold KD
      rw [List.getD_eq_getElem?_getD, List.getElem?_eq_none (by exact q)]
      rfl
    omega
theorem tk11_4 {o : Nat} (h : KD o = 11) : KD (tg o 4) = 6 := (show ∀ o, o < 32 → KD o = 11 → KD (tg o 4) = 6 by decide) o (kd_lt h (by decide)) h
theorem tk11_5 {o : Nat} (h : KD o = 11) : KD (tg o 5) = 9 := (show ∀ o, o < 32 → KD o = 11 → KD (tg o 5) = 9 by decide) o (kd_lt h (by decide)) h
theorem tk11_6 {o : Nat} (h : KD o = 11) : KD (tg o 6) = 1 := (show ∀ o, o < 32 → KD o = 11 → KD (tg o 6) = 1 by decide) o (kd_lt h (by decide)) h
theorem tk11_9 {o : Nat} (h : KD o = 11) : KD (tg o 9) = 7 := (show ∀ o, o < 32 → KD o = 11 → KD (tg o 9) = 7 by decide) o (kd_lt h (by decide)) h
theorem tk11_14 {o : Nat} (h : KD o = 11) : KD (tg o 14) = 10 := (show ∀ o, o < 32 → KD o = 11 → KD (tg o 14) = 10 by decide) o (kd_lt h (by decide)) h
theorem tk11_15 {o : Nat} (h : KD o = 11) : KD (tg o 15) = 4 := (show ∀ o, o < 32 → KD o = 11 → KD (tg o 15) = 4 by decide) o (kd_lt h (by decide)) h
theorem tk11_16 {o : Nat} (h : KD o = 11) : KD (tg o 16) = 0 := (show ∀ o, o < 32 → KD o = 11 → KD (tg o 16) = 0 by decide) o (kd_lt h (by decide)) h
theorem tk11_17 {o : Nat} (h : KD o = 11) : KD (tg o 17) = 3 := (show ∀ o, o < 32 → KD o = 11 → KD (tg o 17) = 3 by decide) o (kd_lt h (by decide)) h
theorem tk7_1 {o : Nat} (h : KD o = 7) : KD (tg o 1) = 4 := (show ∀ o, o < 32 → KD o = 7 → KD (tg o 1) = 4 by decide) o (kd_lt h (by decide)) h
theorem tk3_0 {o : Nat} (h : KD o = 3) : KD (tg o 0) = 4 := (show ∀ o, o < 32 → KD o = 3 → KD (tg o 0) = 4 by decide) o (kd_lt h (by decide)) h
theorem kr0 {a : Nat} (h : a < 4) : KD (ra 0 a) = 8 := (show ∀ a, a < 4 → KD (ra 0 a) = 8 by decide) a h
theorem kr1 {a : Nat} (h : a < 3) : KD (ra 1 a) = 7 := (show ∀ a, a < 3 → KD (ra 1 a) = 7 by decide) a h
