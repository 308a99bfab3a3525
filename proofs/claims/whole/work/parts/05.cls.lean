def clC : Nat → String := fun c => match c with
  | 0 => RX0
  | 1 => RX1
  | 2 => RX2
  | 3 => RX3
  | 4 => RX4
  | 5 => RX5
  | 6 => RX6
  | 7 => RX7
  | 8 => RX8
  | 9 => RX9
  | 10 => RX11
  | _ => RX12
def clT : Nat → u_T := fun c => match c with
  | 0 => TX0
  | 1 => TX1
  | 2 => TX2
  | 3 => TX3
  | 4 => TX4
  | 5 => TX5
  | 6 => TX6
  | 7 => TX7
  | 8 => TX8
  | 9 => TX9
  | 10 => TX11
  | _ => TX12
def clN : Nat → Nat := fun c => match c with
  | 0 => 4
  | 1 => 3
  | 2 => 4
  | 3 => 3
  | 4 => 10
  | 5 => 10
  | 6 => 7
  | 7 => 7
  | 8 => 5
  | 9 => 8
  | 10 => 12
  | _ => 35
def clTy : Nat → Nat → FieldType := fun c => match c with
  | 0 => tyX0
  | 1 => tyX1
  | 2 => tyX2
  | 3 => tyX3
  | 4 => tyX4
  | 5 => tyX5
  | 6 => tyX6
  | 7 => tyX7
  | 8 => tyX8
  | 9 => tyX9
  | 10 => tyX11
  | _ => tyX12
theorem cl_at : ∀ c, c < 12 → vwCl[c]? = some (clC c, clT c, clN c)
  | 0, _ => rfl
  | 1, _ => rfl
  | 2, _ => rfl
  | 3, _ => rfl
  | 4, _ => rfl
  | 5, _ => rfl
  | 6, _ => rfl
  | 7, _ => rfl
  | 8, _ => rfl
  | 9, _ => rfl
  | 10, _ => rfl
  | 11, _ => rfl
  | c + 12, h => absurd h (by omega)
theorem cl_in_0 : ∀ w ∈ u_ws RX0 TX0 4, w ∈ lw_g := List.forall_mem_cons.mpr ⟨kw308, List.forall_mem_cons.mpr ⟨kw310, List.forall_mem_cons.mpr ⟨kw312, List.forall_mem_cons.mpr ⟨kw314, fun _ h => absurd h List.not_mem_nil⟩⟩⟩⟩
theorem cl_in_1 : ∀ w ∈ u_ws RX1 TX1 3, w ∈ lw_g := List.forall_mem_cons.mpr ⟨kw211, List.forall_mem_cons.mpr ⟨kw213, List.forall_mem_cons.mpr ⟨kw215, fun _ h => absurd h List.not_mem_nil⟩⟩⟩
theorem cl_in_2 : ∀ w ∈ u_ws RX2 TX2 4, w ∈ lw_g := List.forall_mem_cons.mpr ⟨kw345, List.forall_mem_cons.mpr ⟨kw347, List.forall_mem_cons.mpr ⟨kw349, List.forall_mem_cons.mpr ⟨kw351, fun _ h => absurd h List.not_mem_nil⟩⟩⟩⟩
theorem cl_in_3 : ∀ w ∈ u_ws RX3 TX3 3, w ∈ lw_g := List.forall_mem_cons.mpr ⟨kw326, List.forall_mem_cons.mpr ⟨kw328, List.forall_mem_cons.mpr ⟨kw330, fun _ h => absurd h List.not_mem_nil⟩⟩⟩
theorem cl_in_4 : ∀ w ∈ u_ws RX4 TX4 10, w ∈ lw_g := List.forall_mem_cons.mpr ⟨kw251, List.forall_mem_cons.mpr ⟨kw253, List.forall_mem_cons.mpr ⟨kw255, List.forall_mem_cons.mpr ⟨kw257, List.forall_mem_cons.mpr ⟨kw259, List.forall_mem_cons.mpr ⟨kw261, List.forall_mem_cons.mpr ⟨kw263, List.forall_mem_cons.mpr ⟨kw265, List.forall_mem_cons.mpr ⟨kw267, List.forall_mem_cons.mpr ⟨kw269, fun _ h => absurd h List.not_mem_nil⟩⟩⟩⟩⟩⟩⟩⟩⟩⟩
theorem cl_in_5 : ∀ w ∈ u_ws RX5 TX5 10, w ∈ lw_g := List.forall_mem_cons.mpr ⟨kw173, List.forall_mem_cons.mpr ⟨kw175, List.forall_mem_cons.mpr ⟨kw177, List.forall_mem_cons.mpr ⟨kw179, List.forall_mem_cons.mpr ⟨kw181, List.forall_mem_cons.mpr ⟨kw183, List.forall_mem_cons.mpr ⟨kw185, List.forall_mem_cons.mpr ⟨kw187, List.forall_mem_cons.mpr ⟨kw189, List.forall_mem_cons.mpr ⟨kw191, fun _ h => absurd h List.not_mem_nil⟩⟩⟩⟩⟩⟩⟩⟩⟩⟩
theorem cl_in_6 : ∀ w ∈ u_ws RX6 TX6 7, w ∈ lw_g := List.forall_mem_cons.mpr ⟨kw115, List.forall_mem_cons.mpr ⟨kw117, List.forall_mem_cons.mpr ⟨kw119, List.forall_mem_cons.mpr ⟨kw121, List.forall_mem_cons.mpr ⟨kw123, List.forall_mem_cons.mpr ⟨kw125, List.forall_mem_cons.mpr ⟨kw127, fun _ h => absurd h List.not_mem_nil⟩⟩⟩⟩⟩⟩⟩
theorem cl_in_7 : ∀ w ∈ u_ws RX7 TX7 7, w ∈ lw_g := List.forall_mem_cons.mpr ⟨kw516, List.forall_mem_cons.mpr ⟨kw518, List.forall_mem_cons.mpr ⟨kw520, List.forall_mem_cons.mpr ⟨kw522, List.forall_mem_cons.mpr ⟨kw524, List.forall_mem_cons.mpr ⟨kw526, List.forall_mem_cons.mpr ⟨kw528, fun _ h => absurd h List.not_mem_nil⟩⟩⟩⟩⟩⟩⟩
theorem cl_in_8 : ∀ w ∈ u_ws RX8 TX8 5, w ∈ lw_g := List.forall_mem_cons.mpr ⟨kw283, List.forall_mem_cons.mpr ⟨kw285, List.forall_mem_cons.mpr ⟨kw287, List.forall_mem_cons.mpr ⟨kw289, List.forall_mem_cons.mpr ⟨kw291, fun _ h => absurd h List.not_mem_nil⟩⟩⟩⟩⟩
theorem cl_in_9 : ∀ w ∈ u_ws RX9 TX9 8, w ∈ lw_g := List.forall_mem_cons.mpr ⟨kw66, List.forall_mem_cons.mpr ⟨kw68, List.forall_mem_cons.mpr ⟨kw70, List.forall_mem_cons.mpr ⟨kw72, List.forall_mem_cons.mpr ⟨kw74, List.forall_mem_cons.mpr ⟨kw76, List.forall_mem_cons.mpr ⟨kw78, List.forall_mem_cons.mpr ⟨kw80, fun _ h => absurd h List.not_mem_nil⟩⟩⟩⟩⟩⟩⟩⟩
theorem cl_in_10 : ∀ w ∈ u_ws RX11 TX11 12, w ∈ lw_g := List.forall_mem_cons.mpr ⟨kw366, List.forall_mem_cons.mpr ⟨kw368, List.forall_mem_cons.mpr ⟨kw370, List.forall_mem_cons.mpr ⟨kw372, List.forall_mem_cons.mpr ⟨kw374, List.forall_mem_cons.mpr ⟨kw376, List.forall_mem_cons.mpr ⟨kw378, List.forall_mem_cons.mpr ⟨kw380, List.forall_mem_cons.mpr ⟨kw382, List.forall_mem_cons.mpr ⟨kw384, List.forall_mem_cons.mpr ⟨kw386, List.forall_mem_cons.mpr ⟨kw388, fun _ h => absurd h List.not_mem_nil⟩⟩⟩⟩⟩⟩⟩⟩⟩⟩⟩⟩
theorem cl_in_11 : ∀ w ∈ u_ws RX12 TX12 35, w ∈ lw_g := List.forall_mem_cons.mpr ⟨kw1278, List.forall_mem_cons.mpr ⟨kw1280, List.forall_mem_cons.mpr ⟨kw1282, List.forall_mem_cons.mpr ⟨kw1284, List.forall_mem_cons.mpr ⟨kw1286, List.forall_mem_cons.mpr ⟨kw1288, List.forall_mem_cons.mpr ⟨kw1290, List.forall_mem_cons.mpr ⟨kw1292, List.forall_mem_cons.mpr ⟨kw1294, List.forall_mem_cons.mpr ⟨kw1296, List.forall_mem_cons.mpr ⟨kw1298, List.forall_mem_cons.mpr ⟨kw1300, List.forall_mem_cons.mpr ⟨kw1302, List.forall_mem_cons.mpr ⟨kw1304, List.forall_mem_cons.mpr ⟨kw1306, List.forall_mem_cons.mpr ⟨kw1308, List.forall_mem_cons.mpr ⟨kw1310, List.forall_mem_cons.mpr ⟨kw1312, List.forall_mem_cons.mpr ⟨kw1314, List.forall_mem_cons.mpr ⟨kw1316, List.forall_mem_cons.mpr ⟨kw1318, List.forall_mem_cons.mpr ⟨kw1320, List.forall_mem_cons.mpr ⟨kw1322, List.forall_mem_cons.mpr ⟨kw1324, List.forall_mem_cons.mpr ⟨kw1326, List.forall_mem_cons.mpr ⟨kw1328, List.forall_mem_cons.mpr ⟨kw1330, List.forall_mem_cons.mpr ⟨kw1332, List.forall_mem_cons.mpr ⟨kw1334, List.forall_mem_cons.mpr ⟨kw1336, List.forall_mem_cons.mpr ⟨kw1338, List.forall_mem_cons.mpr ⟨kw1340, List.forall_mem_cons.mpr ⟨kw1342, List.forall_mem_cons.mpr ⟨kw1344, List.forall_mem_cons.mpr ⟨kw1346, fun _ h => absurd h List.not_mem_nil⟩⟩⟩⟩⟩⟩⟩⟩⟩⟩⟩⟩⟩⟩⟩⟩⟩⟩⟩⟩⟩⟩⟩⟩⟩⟩⟩⟩⟩⟩⟩⟩⟩⟩⟩
theorem cl_in : ∀ c, c < 12 → ∀ w ∈ u_ws (clC c) (clT c) (clN c), w ∈ lw_g
  | 0, _ => cl_in_0
  | 1, _ => cl_in_1
  | 2, _ => cl_in_2
  | 3, _ => cl_in_3
  | 4, _ => cl_in_4
  | 5, _ => cl_in_5
  | 6, _ => cl_in_6
  | 7, _ => cl_in_7
  | 8, _ => cl_in_8
  | 9, _ => cl_in_9
  | 10, _ => cl_in_10
  | 11, _ => cl_in_11
  | c + 12, h => absurd h (by omega)
theorem cl_ty : ∀ c, c < 12 → ∀ k, k < clN c → parseFieldDescriptor (clT c k).2.2.1 = some (clTy c k)
  | 0, _ => tyX0_ok
  | 1, _ => tyX1_ok
  | 2, _ => tyX2_ok
  | 3, _ => tyX3_ok
  | 4, _ => tyX4_ok
  | 5, _ => tyX5_ok
  | 6, _ => tyX6_ok
  | 7, _ => tyX7_ok
  | 8, _ => tyX8_ok
  | 9, _ => tyX9_ok
  | 10, _ => tyX11_ok
  | 11, _ => tyX12_ok
  | c + 12, h => absurd h (by omega)
theorem cl_nm : ∀ c, c < 12 → ∀ a, a < clN c → ∀ b, b < clN c → a ≠ b → (clT c a).2.1 ≠ (clT c b).2.1
  | 0, _ => nmX0
  | 1, _ => nmX1
  | 2, _ => nmX2
  | 3, _ => nmX3
  | 4, _ => nmX4
  | 5, _ => nmX5
  | 6, _ => nmX6
  | 7, _ => nmX7
  | 8, _ => nmX8
  | 9, _ => nmX9
  | 10, _ => nmX11
  | 11, _ => nmX12
  | c + 12, h => absurd h (by omega)
