/-! PURE 56: all calls -/
theorem pure_all : PURE := pure_of village_s orders_s
