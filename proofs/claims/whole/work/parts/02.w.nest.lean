/-- the links of private members of nest mates -/
def nestL : List (String × Nat × MethodName × String) := [(RX10, 11, yX8_init, RX10), (RX10, 25, yX9_init, RX10), (RX10, 32, yX4_init, RX10), (RX10, 39, yX1_init, RX10), (RX10, 46, yX7_init, RX10), (RX10, 76, yX3_init, RX10), (RX2, 47, yX10_isWithin, RX10), (RX2, 51, yX10_isDay, RX10), (RX9, 15, yX10_isField, RX10), (RX0, 85, yX10_isMinute, RX10)]
